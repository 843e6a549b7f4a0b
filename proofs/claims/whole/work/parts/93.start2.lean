theorem law_start (L : Nat) (xs : Nat → Int32) : ∃ (im1 im2 im3 : gm_I) (lm1 : gm_L), gm_den 304 0 [.ref 1000, .null, .null, .null] [] 0 (fun _ _ => none) (gm_im0 L xs) (fun _ _ => 0) = gm_den 304 18 [.ref 1000, .ref 0, .ref 84, .int (nI 0)] [] 128 gm_RF (mCp im3 116 117 80) (lmW (lmM (gm_zr lm1 84 1 0))) ∧ im2 = mPlain (imM (gm_zr im1 84 1 0)) 0 ∧ gm_den 205 0 [.ref 84, .null] [] 128 gm_RF im2 (lmW (lmM (gm_zr lm1 84 1 0))) = some (none, 128, gm_RF, im3, lmW (lmM (gm_zr lm1 84 1 0))) ∧ (lawsB im1 ∧ im1 11 0 = 2 ∧ im1 11 1 = 0 ∧ im1 11 2 = 0 ∧ im1 11 3 = 0 ∧ im1 11 4 = 0 ∧ im1 22 75 = 0 ∧ im1 22 76 = 0 ∧ im1 23 2 = 0 ∧ im1 23 3 = 0 ∧ im1 23 4 = 0 ∧ im1 0 1 = 0 ∧ im1 0 2 = -1 ∧ im1 0 11 = 0 ∧ ∀ j, j < 20 → lm1 4 j = Int64.ofNat (pkL 32 (cwd j))) ∧ ∀ q, 128 ≤ q → im1 q = gm_im0 L xs q := by
  obtain ⟨im1, lm1, h1, h2⟩ := KX11_init (im := gm_zr (gm_im0 L xs) 0 1 0) (fun c hc => rfl) (gm_zr (fun _ _ => none) 0 1 none) (gm_zr (fun _ _ => 0) 0 1 0)
  have hk := (den_keep h1 (by decide)).2
  obtain ⟨im2, im3, e2, b1, p1⟩ := KX12_post (im := imM (gm_zr im1 84 1 0)) rfl (lmM (gm_zr lm1 84 1 0))
  refine ⟨im1, im2, im3, lm1, ?_, e2, b1, h2, fun q hq => ?_⟩
  · rw [law_a, h1, gm_cont_v, law_b, KX12_pre]
    rw [show rfM (gm_zr (rfC (gm_zr (fun _ _ => none) 0 1 none)) 84 1 none) = gm_RF from rf_eq, p1, gm_cont_v, law_c]
  · rw [hk q hq]
    funext j
    show (if 0 ≤ q ∧ q < 0 + 1 then 0 else gm_im0 L xs q j) = _
    rw [if_neg (by omega)]
