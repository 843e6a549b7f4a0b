/-! the law up to its loop -/
theorem ge_astn {k pc : Nat} {vs st : List Value} {n : Nat} {rf : gm_R} {im : gm_I} {lm : gm_L} {M : gm_M} {j : Fin 4} {i x : Nat} {ws : List Value} (hM : gm_MT[k]? = some M) (hd : decode (gm_b M) pc = .ok (.astore_n j, 1)) (hj : (j : Nat) = i) (h9 : ¬ x = 1030) (hw : vs.set i (.ref x) = ws) (hi : i < vs.length) (hp : gm_pv vs i = true) : gm_den k pc vs (.ref x :: st) n rf im lm = gm_den k (pc + 1) ws st n rf im lm := by
  subst hj
  exact ge_s1 hM hd rfl (fun ws h => by simp only [gm_stp, gm_a, h9, if_false, h]) hw hi hp
