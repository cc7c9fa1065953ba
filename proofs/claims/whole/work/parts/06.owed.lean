section ZRB
theorem i_up {k : Nat} {u : SX} {v : SY} (h : i_Rel k u v) : i_Rel (k + 3) u v := h
theorem i_vc0 (k0 : Int32) : wpX_init (fun u => wpY_init (fun v => i_Rel 1 u v) k0) k0 := by
  unfold wpX_init
  refine br_c (fun h8 => br_c (fun h24 => ?_) (fun h24 => ?_)) (fun h8 => ?_)
  · unfold wpY_init
    refine br_t h8 ?_
    unfold wY_init_63
    refine br_t h24 ?_
    obtain ⟨n, hn, rfl⟩ := nI_of2 (M := 24) (n := 24) (by decide) (Int32.not_lt.mpr (Int32.le_trans (by decide) h8)) h24
    exact zr_0 hn
  · unfold wpY_init
    refine br_t h8 ?_
    unfold wY_init_63
    exact br_f h24 (zr_0 (n := 24) (by omega))
  · unfold wpY_init
    refine br_f h8 ?_
    unfold wY_init_63
    exact br_t (by decide) (zr_0 (n := 8) (by omega))
theorem i_vc_size {k : Nat} {u : SX} {v : SY} (I : i_Rel k u v) (hk : k + 3 ≤ 1537) : wpX_size (fun r => wpY_size (fun r' => r' = r ∧ i_Rel (k + 3) u v) v) u := by
  obtain ⟨n, l, c, a0, a1, a2, a3, a4, a5, rfl, rfl, hn, e0, e1, e2, e3⟩ := I
  unfold wpX_size
  dsimp only
  unfold wpY_size
  dsimp only
  exact ⟨rfl, zr_mk hn e0 e1 e2 e3⟩
theorem i_vc_write {k : Nat} {u : SX} {v : SY} (I : i_Rel k u v) (hk : k + 3 ≤ 1537) (v1 : Int32) (v2 : Int32) : wpX_write (fun r u' => wpY_write (fun r' v' => r' = r ∧ i_Rel (k + 3) u' v') v v1 v2) u v1 v2 := by
  obtain ⟨n, l, c, a0, a1, a2, a3, a4, a5, rfl, rfl, hn, e0, e1, e2, e3⟩ := I
  rcases pk_ix v1 (n := n) (by omega) with h | h | ⟨p, hp, rfl⟩
  · exact zx_write0 (Or.inl h) (zy_write0 (Or.inl h) ⟨rfl, zr_mk hn e0 e1 e2 e3⟩)
  · exact zx_write0 (Or.inr h) (zy_write0 (Or.inr h) ⟨rfl, zr_mk hn e0 e1 e2 e3⟩)
  · refine zx_write hp hn (zy_write hp hn ?_)
    have e := zk_wo_c (p := p) (y := v2) (f := fun q => c (2 * 24 + q)) e2
    rw [e]
    refine ⟨rfl, ?_⟩
    cases zk_wo n a2 p v2 with
    | false => exact zr_mk hn e0 e1 e2 e3
    | true => exact zr_mk hn (zr_uo (k := 0) (t := 2) hn (by omega) (by omega) e0) (zr_uo (k := 1) (t := 2) hn (by omega) (by omega) e1) (zr_us (t := 2) e2) (zr_uo (k := 3) (t := 2) hn (by omega) (by omega) e3)
theorem i_vc_delete {k : Nat} {u : SX} {v : SY} (I : i_Rel k u v) (hk : k + 3 ≤ 1537) (v1 : Int32) : wpX_delete (fun r u' => wpY_delete (fun r' v' => r' = r ∧ i_Rel (k + 3) u' v') v v1) u v1 := by
  obtain ⟨n, l, c, a0, a1, a2, a3, a4, a5, rfl, rfl, hn, e0, e1, e2, e3⟩ := I
  rcases pk_ix v1 (n := n) (by omega) with h | h | ⟨p, hp, rfl⟩
  · exact zx_delete0 (Or.inl h) (zy_delete0 (Or.inl h) ⟨rfl, zr_mk hn e0 e1 e2 e3⟩)
  · exact zx_delete0 (Or.inr h) (zy_delete0 (Or.inr h) ⟨rfl, zr_mk hn e0 e1 e2 e3⟩)
  · refine zx_delete hp hn (zy_delete hp hn ⟨?_, ?_⟩)
    · refine congrArg nI (zk_cn_c n 0 (fun q _ hq => ?_))
      exact (zr_dg (f := fun q => c (2 * 24 + q)) (e2 q (by omega))).symm
    · refine zr_mk hn (zr_ro (k := 0) (t := 2) hn (by omega) e0) (zr_ro (k := 1) (t := 2) hn (by omega) e1) (zr_rs (t := 2) (fun q hq => ?_)) (zr_ro (k := 3) (t := 2) hn (by omega) e3)
      unfold zk_dF
      dsimp only
      rw [e2 q hq]
theorem i_vc_stage {k : Nat} {u : SX} {v : SY} (I : i_Rel k u v) (hk : k + 3 ≤ 1537) (v1 : Int32) : wpX_stage (fun r u' => wpY_stage (fun r' v' => r' = r ∧ i_Rel (k + 3) u' v') v v1) u v1 := by
  obtain ⟨n, l, c, a0, a1, a2, a3, a4, a5, rfl, rfl, hn, e0, e1, e2, e3⟩ := I
  rcases pk_ix v1 (n := n) (by omega) with h | h | ⟨p, hp, rfl⟩
  · exact zx_stage0 (Or.inl h) (zy_stage0 (Or.inl h) ⟨rfl, zr_mk hn e0 e1 e2 e3⟩)
  · exact zx_stage0 (Or.inr h) (zy_stage0 (Or.inr h) ⟨rfl, zr_mk hn e0 e1 e2 e3⟩)
  · refine zx_stage hp hn (zy_stage hp hn ⟨rfl, ?_⟩)
    unfold zk_sx zk_sy
    rw [e2 p hp]
    have f0 := zr_uo (k := 0) (t := 1) (p := p) (y := a2 p) hn (by omega) (by omega) e0
    have f1 := zr_us (t := 1) (p := p) (y := a2 p) e1
    have f2 := zr_uo (k := 2) (t := 1) (p := p) (y := a2 p) hn (by omega) (by omega) e2
    have f3 := zr_uo (k := 3) (t := 1) (p := p) (y := a2 p) hn (by omega) (by omega) e3
    by_cases z : a2 p = 0
    · rw [if_pos z, if_pos z]
      exact zr_mk hn f0 f1 f2 f3
    · rw [if_neg z, if_neg z]
      refine zr_mk hn (zr_ro (k := 0) (t := 1) hn (by omega) f0) (zr_rs (t := 1) (fun q hq => ?_)) (zr_ro (k := 2) (t := 1) hn (by omega) f2) (zr_ro (k := 3) (t := 1) hn (by omega) f3)
      unfold zk_cF
      dsimp only
      rw [f1 q hq]
theorem i_vc_commit {k : Nat} {u : SX} {v : SY} (I : i_Rel k u v) (hk : k + 3 ≤ 1537) : wpX_commit (fun r u' => wpY_commit (fun r' v' => r' = r ∧ i_Rel (k + 3) u' v') v) u := by
  obtain ⟨n, l, c, a0, a1, a2, a3, a4, a5, rfl, rfl, hn, e0, e1, e2, e3⟩ := I
  refine zx_commit hn (zy_commit hn ⟨?_, ?_⟩)
  · refine congrArg nI (zk_cn_c n 0 (fun q _ hq => ?_))
    exact (zr_ne (f := fun q => c (0 * 24 + q)) (g := fun q => c (1 * 24 + q)) (e0 q (by omega)) (e1 q (by omega))).symm
  · exact zr_mk hn (zr_rs (t := 0) e1) (zr_ro (k := 1) (t := 0) hn (by omega) e1) (zr_ro (k := 2) (t := 0) hn (by omega) e2) (zr_ro (k := 3) (t := 0) hn (by omega) e3)
theorem i_vc_setTarget {k : Nat} {u : SX} {v : SY} (I : i_Rel k u v) (hk : k + 3 ≤ 1537) (v1 : Int32) (v2 : Int32) : wpX_setTarget (fun r u' => wpY_setTarget (fun r' v' => r' = r ∧ i_Rel (k + 3) u' v') v v1 v2) u v1 v2 := by
  obtain ⟨n, l, c, a0, a1, a2, a3, a4, a5, rfl, rfl, hn, e0, e1, e2, e3⟩ := I
  rcases pk_ix v1 (n := n) (by omega) with h | h | ⟨p, hp, rfl⟩
  · exact zx_setTarget0 (Or.inl h) (zy_setTarget0 (Or.inl h) ⟨rfl, zr_mk hn e0 e1 e2 e3⟩)
  · exact zx_setTarget0 (Or.inr h) (zy_setTarget0 (Or.inr h) ⟨rfl, zr_mk hn e0 e1 e2 e3⟩)
  · refine zx_setTarget hp hn (zy_setTarget hp hn ?_)
    have e := zk_to_c (p := p) (y := v2) (f := fun q => c (3 * 24 + q)) e3
    rw [e]
    refine ⟨rfl, ?_⟩
    cases zk_to n a3 p v2 with
    | false => exact zr_mk hn e0 e1 e2 e3
    | true => exact zr_mk hn (zr_uo (k := 0) (t := 3) hn (by omega) (by omega) e0) (zr_uo (k := 1) (t := 3) hn (by omega) (by omega) e1) (zr_uo (k := 2) (t := 3) hn (by omega) (by omega) e2) (zr_us (t := 3) e3)
theorem i_vc_targetFromHead {k : Nat} {u : SX} {v : SY} (I : i_Rel k u v) (hk : k + 3 ≤ 1537) : wpX_targetFromHead (fun u' => wpY_targetFromHead (fun v' => i_Rel (k + 3) u' v') v) u := by
  obtain ⟨n, l, c, a0, a1, a2, a3, a4, a5, rfl, rfl, hn, e0, e1, e2, e3⟩ := I
  exact zx_tfh hn (zy_tfh hn (zr_mk hn (zr_ro (k := 0) (t := 3) hn (by omega) e0) (zr_ro (k := 1) (t := 3) hn (by omega) e1) (zr_ro (k := 2) (t := 3) hn (by omega) e2) (zr_rs (t := 3) e0)))
theorem zr_ref {k n m : Nat} {l : Int32} {c A B a0 a1 a2 a3 a4 a5 : Nat → Int32} (hn : n ≤ 24) (e0 : ∀ q, q < n → c (0 * 24 + q) = a0 q) (e1 : ∀ q, q < n → c (1 * 24 + q) = a1 q) (e2 : ∀ q, q < n → c (2 * 24 + q) = a2 q) (e3 : ∀ q, q < n → c (3 * 24 + q) = a3 q) : i_Rel k (nI n, l, zk_pl A B c m) (nI n, l, a0, a1, a2, a3, a4, a5) :=
  zr_mk hn (fun q hq => (zk_pl_k 0 (by omega) (by omega)).trans (e0 q hq)) (fun q hq => (zk_pl_k 1 (by omega) (by omega)).trans (e1 q hq)) (fun q hq => (zk_pl_k 2 (by omega) (by omega)).trans (e2 q hq)) (fun q hq => (zk_pl_k 3 (by omega) (by omega)).trans (e3 q hq))
theorem zr_app {k n : Nat} {l : Int32} {c A B a0 a1 a2 a3 b4 b5 : Nat → Int32} (hn : n ≤ 24) (e3 : ∀ q, q < n → c (3 * 24 + q) = a3 q) (eA : ∀ q, q < n → A q = b4 q) (eB : ∀ q, q < n → B q = b5 q) : i_Rel k (nI n, l, zk_ap n (zk_pl A B c n)) (nI n, l, zk_rw 0 a3 a0 n, zk_rw 0 b4 a1 n, zk_rw 0 b5 a2 n, a3, b4, b5) := by
  refine zr_mk hn (fun q hq => ?_) (fun q hq => ?_) (fun q hq => ?_) (fun q hq => ?_)
  · rw [zk_ap_0 hq hn, zk_pl_k 3 (by omega) (by omega), zr_in hq, e3 q hq]
  · rw [zk_ap_1 hq hn, zk_pl_4 hq hn, zr_in hq, eA q hq]
  · rw [zk_ap_2 hq hn, zk_pl_5 hq, zr_in hq, eB q hq]
  · rw [zk_ap_3 hq hn, zk_pl_k 3 (by omega) (by omega), e3 q hq]
theorem i_vc_switchTo {k : Nat} {u : SX} {v : SY} (I : i_Rel k u v) (hk : k + 3 ≤ 1537) (v1 : Int32) : wpX_switchTo (fun r u' => wpY_switchTo (fun r' v' => r' = r ∧ i_Rel (k + 3) u' v') v (lw_bz v1)) u (lw_bz v1) := by
  obtain ⟨n, l, c, a0, a1, a2, a3, a4, a5, rfl, rfl, hn, e0, e1, e2, e3⟩ := I
  rcases lw_bz_01 v1 with e | e
  · rw [e]
    refine zx_sw0 hn e0 e1 e2 e3 (fun z => zy_sw0 hn (fun _ => ⟨rfl, ?_⟩) (fun z' => absurd z z')) (fun z => zy_sw0 hn (fun z' => absurd z' z) (fun _ => ⟨rfl, zr_ref hn e0 e1 e2 e3⟩))
    rw [zk_pa0 z]
    exact zr_app hn e3 (fun q hq => (zr_in hq).symm) (fun q hq => (zr_in hq).symm)
  · rw [e]
    refine zx_sw1 hn (zy_sw1 hn ⟨rfl, ?_⟩)
    refine zr_app hn e3 (fun q hq => ?_) (fun q hq => ?_)
    · rw [zr_in hq]
      exact e3 q hq
    · rw [zr_in hq]
      exact zk_fw_c e0 e1 e2 e3 q hq
theorem i_vc_preview {k : Nat} {u : SX} {v : SY} (I : i_Rel k u v) (hk : k + 3 ≤ 1537) : wpX_preview (fun r u' => wpY_preview (fun r' v' => r' = r ∧ i_Rel (k + 3) u' v') v) u := by
  obtain ⟨n, l, c, a0, a1, a2, a3, a4, a5, rfl, rfl, hn, e0, e1, e2, e3⟩ := I
  exact zx_preview hn e0 e1 e2 e3 (zy_preview hn ⟨rfl, zr_ref hn e0 e1 e2 e3⟩)
theorem i_vc_lastPath {k : Nat} {u : SX} {v : SY} (I : i_Rel k u v) (hk : k + 3 ≤ 1537) : wpX_lastPath (fun r => wpY_lastPath (fun r' => r' = r ∧ i_Rel (k + 3) u v) v) u := by
  obtain ⟨n, l, c, a0, a1, a2, a3, a4, a5, rfl, rfl, hn, e0, e1, e2, e3⟩ := I
  unfold wpX_lastPath
  dsimp only
  unfold wpY_lastPath
  dsimp only
  exact ⟨rfl, zr_mk hn e0 e1 e2 e3⟩
theorem i_vc_entry {k : Nat} {u : SX} {v : SY} (I : i_Rel k u v) (hk : k + 3 ≤ 1537) (v1 : Int32) (v2 : Int32) : wpX_entry (fun r => wpY_entry (fun r' => r' = r ∧ i_Rel (k + 3) u v) v v1 v2) u v1 v2 := by
  obtain ⟨n, l, c, a0, a1, a2, a3, a4, a5, rfl, rfl, hn, e0, e1, e2, e3⟩ := I
  have R : i_Rel (k + 3) (nI n, l, c) (nI n, l, a0, a1, a2, a3, a4, a5) := zr_mk hn e0 e1 e2 e3
  rcases pk_ix v1 (n := 4) (by omega) with h | h | ⟨t, ht, rfl⟩
  · exact zx_entry0 (Or.inl h) (zy_entry0 (Or.inl h) ⟨rfl, R⟩)
  · exact zx_entry0 (Or.inr (zr_t4 h)) (zy_entry0 (Or.inr (zr_t4 h)) ⟨rfl, R⟩)
  · rcases pk_ix v2 (n := n) (by omega) with h | h | ⟨p, hp, rfl⟩
    · exact zx_entry1 t ht (Or.inl h) (zy_entry1 t ht (Or.inl h) ⟨rfl, R⟩)
    · exact zx_entry1 t ht (Or.inr h) (zy_entry1 t ht (Or.inr h) ⟨rfl, R⟩)
    · exact zx_entry t p ht hp hn (zy_entry t p ht hp hn ⟨(zr_tr e0 e1 e2 e3 t ht p hp).symm, R⟩)
theorem i_vc_kind {k : Nat} {u : SX} {v : SY} (I : i_Rel k u v) (hk : k + 3 ≤ 1537) (v1 : Int32) (v2 : Int32) : wpX_kind (fun r => wpY_kind (fun r' => r' = r ∧ i_Rel (k + 3) u v) v v1 v2) u v1 v2 := by
  obtain ⟨n, l, c, a0, a1, a2, a3, a4, a5, rfl, rfl, hn, e0, e1, e2, e3⟩ := I
  have R : i_Rel (k + 3) (nI n, l, c) (nI n, l, a0, a1, a2, a3, a4, a5) := zr_mk hn e0 e1 e2 e3
  rcases pk_ix v1 (n := 4) (by omega) with h | h | ⟨t, ht, rfl⟩
  · exact zx_kind0 (Or.inl h) (zy_kind0 (Or.inl h) ⟨rfl, R⟩)
  · exact zx_kind0 (Or.inr (zr_t4 h)) (zy_kind0 (Or.inr (zr_t4 h)) ⟨rfl, R⟩)
  · rcases pk_ix v2 (n := n) (by omega) with h | h | ⟨p, hp, rfl⟩
    · exact zx_kind1 t ht (Or.inl h) (zy_kind1 t ht (Or.inl h) ⟨rfl, R⟩)
    · exact zx_kind1 t ht (Or.inr h) (zy_kind1 t ht (Or.inr h) ⟨rfl, R⟩)
    · exact zx_kind t p ht hp hn (zy_kind t p ht hp hn ⟨(zk_kd_c hp (zr_tr e0 e1 e2 e3 t ht)).symm, R⟩)
theorem i_vc_status {k : Nat} {u : SX} {v : SY} (I : i_Rel k u v) (hk : k + 3 ≤ 1537) (v1 : Int32) : wpX_status (fun r => wpY_status (fun r' => r' = r ∧ i_Rel (k + 3) u v) v v1) u v1 := by
  obtain ⟨n, l, c, a0, a1, a2, a3, a4, a5, rfl, rfl, hn, e0, e1, e2, e3⟩ := I
  have R : i_Rel (k + 3) (nI n, l, c) (nI n, l, a0, a1, a2, a3, a4, a5) := zr_mk hn e0 e1 e2 e3
  rcases pk_ix v1 (n := n) (by omega) with h | h | ⟨p, hp, rfl⟩
  · exact zx_status0 (Or.inl h) (zy_status0 (Or.inl h) ⟨rfl, R⟩)
  · exact zx_status0 (Or.inr h) (zy_status0 (Or.inr h) ⟨rfl, R⟩)
  · exact zx_status p hp hn (zy_status p hp hn ⟨by rw [e0 p hp, e1 p hp, e2 p hp], R⟩)
theorem i_vc_countFiles {k : Nat} {u : SX} {v : SY} (I : i_Rel k u v) (hk : k + 3 ≤ 1537) (v1 : Int32) : wpX_countFiles (fun r => wpY_countFiles (fun r' => r' = r ∧ i_Rel (k + 3) u v) v v1) u v1 := by
  obtain ⟨n, l, c, a0, a1, a2, a3, a4, a5, rfl, rfl, hn, e0, e1, e2, e3⟩ := I
  have R : i_Rel (k + 3) (nI n, l, c) (nI n, l, a0, a1, a2, a3, a4, a5) := zr_mk hn e0 e1 e2 e3
  rcases pk_ix v1 (n := 4) (by omega) with h | h | ⟨t, ht, rfl⟩
  · exact zx_count0 (Or.inl h) (zy_count0 (Or.inl h) ⟨rfl, R⟩)
  · exact zx_count0 (Or.inr (zr_t4 h)) (zy_count0 (Or.inr (zr_t4 h)) ⟨rfl, R⟩)
  · refine zx_count t ht hn (zy_count t ht hn ⟨congrArg nI (zk_cn_c n 0 (fun q _ hq => ?_)), R⟩)
    exact (zr_nz (f := fun q => c (t * 24 + q)) (zr_tr e0 e1 e2 e3 t ht q (by omega))).symm
end ZRB
