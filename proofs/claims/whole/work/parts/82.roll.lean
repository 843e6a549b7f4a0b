/-! the roll's constructor: written by wip/whole/gen_roll.py -/
theorem KX5_init (rf : gm_R) (im : gm_I) (lm : gm_L) : ∃ im', gm_den 56 0 [.ref 11] [] 12 rf im lm = some (none, 21, gm_up (gm_up (gm_zr (gm_up (gm_zr (gm_up (gm_zr (gm_up (gm_zr (gm_up (gm_zr (gm_zr (gm_up (gm_zr (gm_up (gm_zr (gm_up (gm_zr (rf) 12 1 none) 11 5 (some 12)) 13 1 none) 11 6 (some 13)) 14 1 none) 11 7 (some 14)) 15 1 none) 16 1 none) 15 0 (some 16)) 17 1 none) 15 1 (some 17)) 18 1 none) 15 2 (some 18)) 19 1 none) 15 3 (some 19)) 20 1 none) 15 4 (some 20)) 11 8 (some 15), im', gm_zr (gm_zr (gm_zr (gm_zr (gm_zr (gm_zr (gm_zr (gm_zr (gm_zr (lm) 12 1 0) 13 1 0) 14 1 0) 15 1 0) 16 1 0) 17 1 0) 18 1 0) 19 1 0) 20 1 0) ∧ lawsB im' ∧ im' 11 0 = 2 ∧ im' 11 1 = 0 ∧ im' 11 2 = 0 ∧ im' 11 3 = 0 ∧ im' 11 4 = 0 ∧ ∀ q, q < 11 ∨ 21 ≤ q → im' q = im q := by
  obtain ⟨im', h1, h2, h3⟩ := Kbegin (rf := gm_up (gm_up (gm_zr (gm_up (gm_zr (gm_up (gm_zr (gm_up (gm_zr (gm_up (gm_zr (gm_zr (gm_up (gm_zr (gm_up (gm_zr (gm_up (gm_zr (rf) 12 1 none) 11 5 (some 12)) 13 1 none) 11 6 (some 13)) 14 1 none) 11 7 (some 14)) 15 1 none) 16 1 none) 15 0 (some 16)) 17 1 none) 15 1 (some 17)) 18 1 none) 15 2 (some 18)) 19 1 none) 15 3 (some 19)) 20 1 none) 15 4 (some 20)) 11 8 (some 15)) rfl rfl rfl (gm_up (gm_up (gm_zr (gm_zr (gm_zr (gm_zr (gm_zr (gm_zr (gm_zr (gm_zr (gm_zr (gm_up (gm_up (gm_up (gm_up (gm_up (im) 11 0 2) 11 1 0) 11 2 0) 11 3 0) 11 4 0) 12 1 0) 13 1 0) 14 1 0) 15 1 0) 16 1 0) 17 1 0) 18 1 0) 19 1 0) 20 1 0) 15 5 0) 15 6 0) (gm_zr (gm_zr (gm_zr (gm_zr (gm_zr (gm_zr (gm_zr (gm_zr (gm_zr (lm) 12 1 0) 13 1 0) 14 1 0) 15 1 0) 16 1 0) 17 1 0) 18 1 0) 19 1 0) 20 1 0)
  refine ⟨im', ?_, h2, ?_, ?_, ?_, ?_, ?_, fun q hq => ?_⟩
  · have r8 : (gm_up (gm_up (gm_zr (gm_up (gm_zr (gm_up (gm_zr (gm_up (gm_zr (gm_up (gm_zr (gm_zr (gm_up (gm_zr (gm_up (gm_zr (gm_up (gm_zr (rf) 12 1 none) 11 5 (some 12)) 13 1 none) 11 6 (some 13)) 14 1 none) 11 7 (some 14)) 15 1 none) 16 1 none) 15 0 (some 16)) 17 1 none) 15 1 (some 17)) 18 1 none) 15 2 (some 18)) 19 1 none) 15 3 (some 19)) 20 1 none) 15 4 (some 20)) 11 8 (some 15)) 11 8 = some 15 := rfl
    simp (decide := true) only [QX5_init, KX2_init, gm_cont_v, r8]
    rw [h1]
    simp (decide := true) only [QX5_init, gm_cont_v]
  · rw [h3 11 (by decide)]; rfl
  · rw [h3 11 (by decide)]; rfl
  · rw [h3 11 (by decide)]; rfl
  · rw [h3 11 (by decide)]; rfl
  · rw [h3 11 (by decide)]; rfl
  · rw [h3 q (by simp; omega)]
    funext j
    simp only [gm_up, gm_zr]
    repeat (first | rw [if_neg (by omega)])
