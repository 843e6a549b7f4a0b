/-! the scanner's and the reader's constructors: written by wip/whole/gen_tree.py -/
theorem KX6_init {im : gm_I} (ht : ∀ c, c < 160 → im 1020 c = txt c) (rf : gm_R) (lm : gm_L) : ∃ lm', gm_den 62 0 [.ref 3, .null, .null, .null, .null] [] 4 rf im lm = some (none, 5, gm_up (gm_zr (rf) 4 1 none) 3 0 (some 4), gm_up (gm_up (gm_up (gm_zr (im) 4 1 0) 3 1 3) 3 3 0) 3 4 0, lm') ∧ ∀ j, j < 20 → lm' 4 j = Int64.ofNat (pkL 32 (cwd j)) := by
  obtain ⟨lm', h1, h2, -⟩ := scan_out (im := gm_up (gm_up (gm_up (gm_zr (im) 4 1 0) 3 1 3) 3 3 0) 3 4 0) (fun c hc => ht c hc) (gm_up (gm_zr (rf) 4 1 none) 3 0 (some 4)) rfl 20 0 (gm_up (gm_zr (lm) 4 1 0) 3 2 0) .null .null .null (by decide) (fun j hj => absurd hj (Nat.not_lt_zero _))
  refine ⟨lm', ?_, h2⟩
  have e20 : (160 : Int32) / 8 = 20 := by decide
  rw [← h1]
  simp (decide := true) only [QX6_init, J_len, gm_cont_i, if_true, if_false, e20]
  rfl
theorem KX4_init {im : gm_I} (ht : ∀ c, c < 160 → im 1020 c = txt c) (rf : gm_R) (lm : gm_L) : ∃ lm', gm_den 51 0 [.ref 2] [] 3 rf im lm = some (none, 11, gm_up (gm_up (gm_zr (gm_up (gm_zr (gm_up (gm_zr (gm_zr (gm_up (gm_up (gm_zr (gm_zr (gm_up (gm_up (gm_zr (gm_zr (rf) 3 1 none) 4 1 none) 3 0 (some 4)) 2 0 (some 3)) 5 1 none) 6 1 none) 5 0 (some 6)) 2 1 (some 5)) 7 1 none) 8 1 none) 7 0 (some 8)) 9 1 none) 7 1 (some 9)) 10 1 none) 7 2 (some 10)) 2 2 (some 7), gm_up (gm_up (gm_zr (gm_zr (gm_zr (gm_zr (gm_up (gm_up (gm_up (gm_up (gm_up (gm_up (gm_zr (gm_zr (gm_up (gm_up (gm_up (gm_zr (gm_zr (im) 3 1 0) 4 1 0) 3 1 3) 3 3 0) 3 4 0) 5 1 0) 6 1 0) 5 1 0) 5 2 0) 5 3 0) 5 4 0) 5 5 0) 5 6 0) 7 1 0) 8 1 0) 9 1 0) 10 1 0) 7 3 0) 2 3 (-1), lm') ∧ ∀ j, j < 20 → lm' 4 j = Int64.ofNat (pkL 32 (cwd j)) := by
  obtain ⟨lm1, h1, h2⟩ := KX6_init (im := gm_zr im 3 1 0) (fun c hc => ht c hc) (gm_zr rf 3 1 none) (gm_zr lm 3 1 0)
  refine ⟨gm_zr (gm_zr (gm_zr (gm_zr (gm_zr (gm_zr (lm1) 5 1 0) 6 1 0) 7 1 0) 8 1 0) 9 1 0) 10 1 0, ?_, h2⟩
  simp (decide := true) only [QX4_init, h1, gm_cont_v, KX1_init, KX10_init]
