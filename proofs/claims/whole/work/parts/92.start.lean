/-! the law up to its loop -/
theorem ge_astn {k pc : Nat} {vs st : List Value} {n : Nat} {rf : gm_R} {im : gm_I} {lm : gm_L} {M : gm_M} {j : Fin 4} {i x : Nat} {ws : List Value} (hM : gm_MT[k]? = some M) (hd : decode (gm_b M) pc = .ok (.astore_n j, 1)) (hj : (j : Nat) = i) (h9 : ¬ x = 1030) (hw : vs.set i (.ref x) = ws) (hi : i < vs.length) (hp : gm_pv vs i = true) : gm_den k pc vs (.ref x :: st) n rf im lm = gm_den k (pc + 1) ws st n rf im lm := by
  subst hj
  exact ge_s1 hM hd rfl (fun ws h => by simp only [gm_stp, gm_a, h9, if_false, h]) hw hi hp
theorem fn13_7 : gm_n 13 7 = some (10, 127, 128, 106) := by decide +kernel
theorem fn13_10 : gm_n 13 10 = some (11, 1274, 1275, 121) := by decide +kernel
theorem fC13_9 : gm_c 13 9 = some (2, 108, 129, 130, 0) := by decide +kernel
theorem fC13_12 : gm_c 13 12 = some (2, 164, 1276, 1277, 0) := by decide +kernel
theorem law_a (rf : gm_R) (im : gm_I) (lm : gm_L) : gm_den 304 0 [.ref 1000, .null, .null, .null] [] 0 rf im lm = gm_cont 304 7 [.ref 1000, .null, .null, .null] [.ref 0] 84 (gm_den 108 0 [.ref 0] [] 1 (gm_zr rf 0 1 none) (gm_zr im 0 1 0) (gm_zr lm 0 1 0)) := by
  have s0 : gm_den 304 0 [.ref 1000, .null, .null, .null] [] 0 rf im lm = _ := ge_new (st := []) k_L_law dL_law_0 fn13_7 fL0 (by decide) (by decide)
  rw [s0]
  refine (ge_dup k_L_law dL_law_3 rfl).trans ?_
  exact ge_ctor (as' := []) (rest := [.ref 0]) k_L_law dL_law_4 fC13_9 (by decide) k_X11_init rfl rfl (by decide) rfl (show 1 ≤ 1 by decide) rfl rfl
theorem law_b (rf : gm_R) (im : gm_I) (lm : gm_L) : gm_den 304 7 [.ref 1000, .null, .null, .null] [.ref 0] 84 rf im lm = gm_cont 304 15 [.ref 1000, .ref 0, .null, .null] [.ref 84] 128 (gm_den 164 0 [.ref 84] [] 85 (gm_zr rf 84 1 none) (gm_zr im 84 1 0) (gm_zr lm 84 1 0)) := by
  have e : gm_den 304 7 [.ref 1000, .null, .null, .null] [.ref 0] 84 rf im lm = gm_den 304 8 [.ref 1000, .ref 0, .null, .null] [] 84 rf im lm := ge_astn k_L_law dL_law_7 rfl (by decide) rfl (show 2 ≤ 4 by decide) (gm_pvc rfl rfl)
  rw [e]
  refine (ge_new k_L_law dL_law_8 fn13_10 fL84 (by decide) (by decide)).trans ?_
  refine (ge_dup k_L_law dL_law_11 rfl).trans ?_
  exact ge_ctor (as' := []) (rest := [.ref 84]) k_L_law dL_law_12 fC13_12 (by decide) k_X12_init rfl rfl (by decide) rfl (show 1 ≤ 1 by decide) rfl rfl
theorem law_c (im : gm_I) (lm : gm_L) : gm_den 304 15 [.ref 1000, .ref 0, .null, .null] [.ref 84] 128 gm_RF im lm = gm_den 304 18 [.ref 1000, .ref 0, .ref 84, .int (nI 0)] [] 128 gm_RF im lm := by
  have e : gm_den 304 15 [.ref 1000, .ref 0, .null, .null] [.ref 84] 128 gm_RF im lm = gm_den 304 16 [.ref 1000, .ref 0, .ref 84, .null] [] 128 gm_RF im lm := ge_astn k_L_law dL_law_15 rfl (by decide) rfl (show 3 ≤ 4 by decide) (gm_pvc rfl rfl)
  rw [e]
  refine (ge_iconst (v := 0) k_L_law dL_law_16 (by decide)).trans ?_
  exact ge_istn k_L_law dL_law_17 rfl rfl (show 4 ≤ 4 by decide) (gm_pvc rfl rfl)
