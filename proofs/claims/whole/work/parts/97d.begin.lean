/-! where the law's loop begins -/
theorem zr_hi {α : Type} {f : Nat → Nat → α} {n q : Nat} {z : α} (h : n + 1 ≤ q) : gm_zr f n 1 z q = f q := by
  funext j
  show (if n ≤ q ∧ q < n + 1 then z else f q j) = f q j
  rw [if_neg (by omega)]
theorem imM_hi {im : gm_I} {q : Nat} (h : 128 ≤ q) : imM im q = im q := by
  unfold imM
  iterate 36 rw [zr_hi (by omega)]
  rw [gu_row (by omega)]
  iterate 7 rw [zr_hi (by omega)]
theorem start_inv (L : Nat) (xs : Nat → Int32) : ∃ (B : gm_I) (lm : gm_L), gm_den 304 0 [.ref 1000, .null, .null, .null] [] 0 (fun _ _ => none) (gm_im0 L xs) (fun _ _ => 0) = gm_den 304 18 [.ref 1000, .ref 0, .ref 84, .int (nI 0)] [] 128 gm_RF B lm ∧ Inv B lm 0 0 0 0 2 ∧ B 2000 0 = nI L ∧ stR B := by
  obtain ⟨im1, im2, im3, lm1, h1, h2, h3, ⟨hB, e0, e1, e2, e3, e4, e5, e6, e7, e8, e9, e10, e11, e12, e13⟩, h5⟩ := law_start L xs
  have h18 : im2 84 18 = nI 0 := by rw [h2]; rfl
  have h94 : im2 94 0 = nI 0 := by rw [h2]; rfl
  obtain ⟨im3', b1, b2, b3, b4, b5, b6, b7, b8, b9⟩ := M_begins (l := 0) (nm := 0) (by decide) (by decide) h18 h94 (lmW (lmM (gm_zr lm1 84 1 0)))
  have h33 : im3 = im3' := by
    rw [h3] at b1
    injection b1 with b1
    injection b1 with _ b1
    injection b1 with _ b1
    injection b1 with _ b1
    injection b1 with b1 _
  subst h33
  obtain ⟨⟨v1, v2, v3, v4, v5⟩, v6, v7⟩ := mPl_v (s := 0) (by decide) (imM (gm_zr im1 84 1 0))
  rw [← h2] at v1 v2 v3 v4 v5 v6 v7
  have rq : ∀ q, q ≠ 116 → mCp im3 116 117 80 q = im3 q := fun q hq => by
    funext j
    show (if q = 116 ∧ j < 80 then im3 117 j else im3 q j) = im3 q j
    rw [if_neg (fun e => hq e.1)]
  have r2 : ∀ q, q ≠ 116 → q ≠ 117 → q ≠ 84 → mCp im3 116 117 80 q = im2 q := fun q a b c => by rw [rq q a, b2 q b c]
  have r84 : ∀ j, j ≠ 51 → mCp im3 116 117 80 84 j = im2 84 j := fun j hj => by rw [rq 84 (by decide), b3 j hj]
  have r116 : ∀ j, j < 80 → mCp im3 116 117 80 116 j = im3 117 j := fun j hj => by
    show (if 116 = 116 ∧ j < 80 then im3 117 j else im3 116 j) = im3 117 j
    rw [if_pos ⟨rfl, hj⟩]
  have hi : ∀ q, 128 ≤ q → mCp im3 116 117 80 q = gm_im0 L xs q := fun q hq => by
    rw [r2 q (by omega) (by omega) (by omega), h2]
    have a : mPlain (imM (gm_zr im1 84 1 0)) 0 q = imM (gm_zr im1 84 1 0) q := (mPl_f (s := 0) (by decide) (imM (gm_zr im1 84 1 0))).1 q (fun e => by simp at e; omega) (by omega)
    rw [a, imM_hi hq, zr_hi (by omega), h5 q hq]
  have c11 : mCp im3 116 117 80 11 = im1 11 := by rw [r2 11 (by decide) (by decide) (by decide), h2]; rfl
  have c15 : mCp im3 116 117 80 15 = im1 15 := by rw [r2 15 (by decide) (by decide) (by decide), h2]; rfl
  have c16 : mCp im3 116 117 80 16 = im1 16 := by rw [r2 16 (by decide) (by decide) (by decide), h2]; rfl
  have c17 : mCp im3 116 117 80 17 = im1 17 := by rw [r2 17 (by decide) (by decide) (by decide), h2]; rfl
  have c18 : mCp im3 116 117 80 18 = im1 18 := by rw [r2 18 (by decide) (by decide) (by decide), h2]; rfl
  have c22 : mCp im3 116 117 80 22 = im1 22 := by rw [r2 22 (by decide) (by decide) (by decide), h2]; rfl
  have c23 : mCp im3 116 117 80 23 = im1 23 := by rw [r2 23 (by decide) (by decide) (by decide), h2]; rfl
  have c0 : mCp im3 116 117 80 0 = im1 0 := by rw [r2 0 (by decide) (by decide) (by decide), h2]; rfl
  have z84 : im2 84 2 = 0 ∧ im2 84 17 = -1 ∧ im2 84 54 = 0 ∧ im2 84 61 = 0 ∧ im2 84 35 = 0 ∧ im2 84 41 = 0 := by
    rw [h2]; exact ⟨rfl, rfl, rfl, rfl, rfl, rfl⟩
  have z126 : ∀ x, im2 126 x = 0 := fun x => by rw [h2]; rfl
  obtain ⟨l1, l2, l3, l4, l5, l6, l7, l8, l9, l10, l11, l12, l13, l14, l15, l16⟩ := hB
  have cl : cLws (mCp im3 116 117 80) (fun _ => 0) (fun _ => 0) 0 (fun _ => 0) 6 := by
    unfold cLws
    rw [c15, c16, c17, c18]
    refine ⟨⟨by decide, l1⟩, ⟨l5, l6, l7, l8, l9, l10, l11, l12, l13, l14, l15, l16⟩, fun y a b => by omega, fun k hk => Or.inl ⟨rfl, ?_⟩⟩
    rcases (by omega : k = 0 ∨ k = 1 ∨ k = 2) with rfl | rfl | rfl
    · exact l2
    · exact l3
    · exact l4
  have ml : mLws (mCp im3 116 117 80) (fun _ => 0) (fun _ => 0) 0 0 (fun _ => 0) 0 0 := by
    refine ⟨⟨?_, ?_, by decide, by decide⟩, fun k hk => Or.inl ⟨rfl, ?_, ?_⟩⟩
    · rw [r84 35 (by decide), z84.2.2.2.2.1]; rfl
    · rw [r84 41 (by decide), z84.2.2.2.2.2]; rfl
    · rw [r2 104 (by decide) (by decide) (by decide)]; exact (v6 k hk).1
    · rw [r2 105 (by decide) (by decide) (by decide)]; exact (v6 k hk).2
  refine ⟨mCp im3 116 117 80, _, h1, ⟨⟨⟨by decide, by decide, by decide, by decide, Or.inl rfl⟩, ⟨?_, ?_, ?_, ?_, ?_, ⟨0, by decide, ?_⟩⟩, ⟨?_, ?_, ?_, ?_, ?_⟩, fun a ha => absurd ha (Nat.not_lt_zero _), fun k s hk => absurd hk (Nat.not_lt_zero _), fun j hj => absurd hj (Nat.not_lt_zero _), R_cok cl (by decide), ⟨⟨R_mok (by decide) (by decide) ml (by decide), R_mok (by decide) (by decide) ml (by decide), R_mok (by decide) (by decide) ml (by decide)⟩, R_half (by decide) (by decide) ml⟩, fun k va hk => R_ev (by decide) (by decide) cl (by decide) ml hk va⟩, ⟨fun a ha => absurd ha (Nat.not_lt_zero _), fun m hm => absurd hm (Nat.not_lt_zero _), ?_, ?_⟩, ⟨0, 0, by decide, by decide, ?_, ?_, ?_, fun k hk => absurd hk (Nat.not_lt_zero _)⟩, ⟨0, by decide, ?_, fun x hx => ⟨?_, fun h => ?_⟩⟩, ⟨0, by decide, ?_, ?_, fun i hi => absurd hi (Nat.not_lt_zero _)⟩, ⟨0, by decide, ?_, ?_, fun i hi => absurd hi (Nat.not_lt_zero _)⟩, ?_, ⟨fun w hw => ?_, lmW_ok _⟩⟩, ?_, fun j hj => ?_, fun r i hr hi2 => ?_⟩
  · rw [r84 18 (by decide)]; exact h18
  · rw [c11]; exact e0
  · rw [c11]; exact e2
  · rw [c11]; exact e3
  · rw [c11]; exact e4
  · rw [c11]; exact e1
  · rw [r2 93 (by decide) (by decide) (by decide)]; exact v1
  · rw [r2 94 (by decide) (by decide) (by decide)]; exact v2
  · rw [r2 99 (by decide) (by decide) (by decide)]; exact v3
  · rw [r2 101 (by decide) (by decide) (by decide)]; exact v4
  · rw [r2 103 (by decide) (by decide) (by decide), c11, e1]; exact v5
  · rw [c22, e5, r116 75 (by decide), b8]
  · rw [c22, e6, r116 76 (by decide), b9]
  · rw [c23]; exact e7
  · rw [c23]; exact e8
  · rw [r84 54 (by decide)]; exact z84.2.2.1
  · rw [c23]; exact e9
  · rw [r2 126 (by decide) (by decide) (by decide), z126, Nat.zero_testBit]; rfl
  · rw [Nat.zero_testBit] at h; cases h
  · rw [c0]; exact e12
  · rw [r84 61 (by decide)]; exact z84.2.2.2.1
  · rw [c0]; exact e10
  · rw [r84 2 (by decide)]; exact z84.1
  · rw [c0, e11, r84 17 (by decide)]; exact z84.2.1.symm
  · rw [← e13 w hw]; unfold lmW; rfl
  · rw [hi 2000 (by decide)]; rfl
  · rw [hi 1021 (by decide)]
    rcases (by omega : j = 0 ∨ j = 1 ∨ j = 2 ∨ j = 3 ∨ j = 4 ∨ j = 5 ∨ j = 6 ∨ j = 7 ∨ j = 8) with rfl | rfl | rfl | rfl | rfl | rfl | rfl | rfl | rfl <;> rfl
  · rw [hi (1001 + r) (by omega)]
    show (if 1001 + r = 2000 then _ else if 1001 + r = 1000 then _ else if 1001 + r < 1010 then (gm_SA.getD (1001 + r - 1001) []).getD i 0 else _) = _
    rw [if_neg (by omega), if_neg (by omega), if_pos (by omega), show 1001 + r - 1001 = r by omega]
