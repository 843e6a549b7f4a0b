/-! what is left: the pure machine's run of the law ends with 1 -/
theorem gm_pure (L : Nat) (xs : Nat → Int32) (hL : L ≤ 3072) : ∃ (n : Nat) (rf : gm_R) (im : gm_I) (lm : gm_L), gm_den gm_LK 0 [.ref 1000, .null, .null, .null] [] 0 (fun _ _ => none) (gm_im0 L xs) (fun _ _ => 0) = some (some (.int 1), n, rf, im, lm) := by
  sorry
