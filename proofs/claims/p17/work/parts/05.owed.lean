section ZLC
theorem i_vc (xs : Nat → Int32) (L : Nat) (hL : L ≤ 260) : wpL_law (fun r => r = 1) L xs := by
  unfold wpL_law
  obtain ⟨n, h8, hn, hi⟩ := zl_init (zl_v L xs 0 &&& 31)
  refine zl_cell 0 rfl hL (by omega) ⟨1, 144, by omega, by omega, hi _ ⟨by omega, by omega, zl_cell 0 rfl hL (by omega) ⟨1, 144, by omega, by omega, hi _ ?_⟩⟩⟩
  unfold wpX_size
  dsimp only
  exact ⟨by decide, nm_r (zl_st L hL) (br_t (nI_pos' (by omega)) ⟨(L - 1) / 3 + 1 + 1, zl_59 (post := fun r => r = 1) (S := (L - 1) / 3) rfl hL (by omega) h8 hn ((L - 1) / 3 + 1) 0 _ _ (by omega)⟩)⟩
end ZLC
