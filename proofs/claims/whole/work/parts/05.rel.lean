section ZRA
/-! what the two sides make of a tree stays alike -/
theorem zk_fst_hi {g : Nat → Bool} : ∀ d i, zk_fst g d i < i + d → g (zk_fst g d i) = true := by
  intro d
  induction d with
  | zero =>
    intro i h
    exact absurd (show i < i + 0 from h) (by omega)
  | succ d ih =>
    intro i h
    cases e : g i with
    | true =>
      rw [zk_fst_t e]
      exact e
    | false =>
      rw [zk_fst_f e] at h ⊢
      exact ih (i + 1) (by omega)
theorem zk_pa0 {n : Nat} {H I W T : Nat → Int32} (h : zk_pa n H I W T = 0) : zk_m n H I W T = n := by
  have le : zk_m n H I W T ≤ 0 + n := zk_fst_le n 0
  by_cases e : zk_m n H I W T < n
  · have g : zk_gr H I W T (zk_m n H I W T) = true := zk_fst_hi n 0 (by show zk_m n H I W T < 0 + n; omega)
    unfold zk_pa at h
    rw [if_pos e] at h
    unfold zk_gr at g
    rw [zk_nd0 h] at g
    exact absurd g (by decide)
  · omega
theorem zr_dg {p q : Nat} {f g : Nat → Int32} (e : f q = g q) : zk_dg p f q = zk_dg p g q := by
  unfold zk_dg
  rw [e]
theorem zr_ne {q : Nat} {f g f' g' : Nat → Int32} (e : f q = f' q) (e' : g q = g' q) : zk_ne f g q = zk_ne f' g' q := by
  unfold zk_ne
  rw [e, e']
theorem zr_nz {q : Nat} {f g : Nat → Int32} (e : f q = g q) : zk_nz f q = zk_nz g q := by
  unfold zk_nz
  rw [e]
theorem zr_us {n t p : Nat} {y : Int32} {c a : Nat → Int32} (e : ∀ q, q < n → c (t * 24 + q) = a q) : ∀ q, q < n → upd c (t * 24 + p) y (t * 24 + q) = upd a p y q := by
  intro q hq
  by_cases z : q = p
  · subst z
    rw [pk_us, pk_us]
  · rw [pk_un (by omega), pk_un z, e q hq]
theorem zr_uo {n k t p : Nat} {y : Int32} {c a : Nat → Int32} (hn : n ≤ 24) (hp : p < 24) (hk : k ≠ t) (e : ∀ q, q < n → c (k * 24 + q) = a q) : ∀ q, q < n → upd c (t * 24 + p) y (k * 24 + q) = a q := by
  intro q hq
  rw [pk_un (by omega), e q hq]
theorem zr_in {n q : Nat} {F a : Nat → Int32} (hq : q < n) : zk_rw 0 F a n q = F q := by
  have k := zk_rw_in (b := 0) (F := F) (c := a) hq
  rw [Nat.zero_add] at k
  exact k
theorem zr_rs {n t : Nat} {F G c a : Nat → Int32} (e : ∀ q, q < n → F q = G q) : ∀ q, q < n → zk_rw (t * 24) F c n (t * 24 + q) = zk_rw 0 G a n q := by
  intro q hq
  rw [zk_rw_in hq, zr_in hq, e q hq]
theorem zr_ro {n k t : Nat} {F c a : Nat → Int32} (hn : n ≤ 24) (hk : k ≠ t) (e : ∀ q, q < n → c (k * 24 + q) = a q) : ∀ q, q < n → zk_rw (t * 24) F c n (k * 24 + q) = a q := by
  intro q hq
  rw [zk_rw_out (by omega), e q hq]
theorem zr_tr {n : Nat} {c a0 a1 a2 a3 a4 a5 : Nat → Int32} (e0 : ∀ q, q < n → c (0 * 24 + q) = a0 q) (e1 : ∀ q, q < n → c (1 * 24 + q) = a1 q) (e2 : ∀ q, q < n → c (2 * 24 + q) = a2 q) (e3 : ∀ q, q < n → c (3 * 24 + q) = a3 q) : ∀ t, t < 4 → ∀ q, q < n → c (t * 24 + q) = zk_tr a0 a1 a2 a3 a4 a5 t q := by
  intro t ht
  match t, ht with
  | 0, _ => exact e0
  | 1, _ => exact e1
  | 2, _ => exact e2
  | 3, _ => exact e3
  | t + 4, ht => exact absurd ht (by omega)
theorem zr_t4 {x : Int32} (h : nI 4 ≤ x) : 3 < x := Int32.lt_of_lt_of_le (show (3 : Int32) < nI 4 by decide) h
/-- one path count, one recorded path; the store's first four trees are the reference's four arrays below the count -/
def i_Rel (_ : Nat) (u : SX) (v : SY) : Prop := ∃ (n : Nat) (l : Int32) (c a0 a1 a2 a3 a4 a5 : Nat → Int32), u = (nI n, l, c) ∧ v = (nI n, l, a0, a1, a2, a3, a4, a5) ∧ n ≤ 24 ∧ (∀ q, q < n → c (0 * 24 + q) = a0 q) ∧ (∀ q, q < n → c (1 * 24 + q) = a1 q) ∧ (∀ q, q < n → c (2 * 24 + q) = a2 q) ∧ (∀ q, q < n → c (3 * 24 + q) = a3 q)
theorem zr_mk {k n : Nat} {l : Int32} {c a0 a1 a2 a3 a4 a5 : Nat → Int32} (hn : n ≤ 24) (e0 : ∀ q, q < n → c (0 * 24 + q) = a0 q) (e1 : ∀ q, q < n → c (1 * 24 + q) = a1 q) (e2 : ∀ q, q < n → c (2 * 24 + q) = a2 q) (e3 : ∀ q, q < n → c (3 * 24 + q) = a3 q) : i_Rel k (nI n, l, c) (nI n, l, a0, a1, a2, a3, a4, a5) :=
  ⟨n, l, c, a0, a1, a2, a3, a4, a5, rfl, rfl, hn, e0, e1, e2, e3⟩
theorem zr_0 {k n : Nat} (hn : n ≤ 24) : i_Rel k (nI n, -1, fun _ => 0) (nI n, -1, (fun _ => 0), (fun _ => 0), (fun _ => 0), (fun _ => 0), (fun _ => 0), (fun _ => 0)) :=
  zr_mk hn (fun _ _ => rfl) (fun _ _ => rfl) (fun _ _ => rfl) (fun _ _ => rfl)
end ZRA
