/-! the pure machine's run of the law ends with 1 -/
theorem gm_pure (L : Nat) (xs : Nat → Int32) (hL : L ≤ 3072) : ∃ (n : Nat) (rf : gm_R) (im : gm_I) (lm : gm_L), gm_den gm_LK 0 [.ref 1000, .null, .null, .null] [] 0 (fun _ _ => none) (gm_im0 L xs) (fun _ _ => 0) = some (some (.int 1), n, rf, im, lm) := by
  obtain ⟨B, lm, h1, h2, h3, h4⟩ := start_inv L xs
  obtain ⟨n, rf, im', lm', h5⟩ := law_loop A_read hL 600 0 B lm 0 0 0 0 2 (by omega) (by omega) h2 h3 h4
  exact ⟨n, rf, im', lm', h1.trans h5⟩
