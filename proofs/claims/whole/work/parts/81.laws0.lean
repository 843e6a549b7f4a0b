/-! the laws as they begin, while cells are made -/
theorem i406 (i : Nat) (hi : i < 406) : gm_in (nI i) 406 = true ∧ (nI i).toNatClampNeg = i := ⟨gm_in_nI hi (by decide), nI_clamp (by omega)⟩
theorem KaddStep {rf : gm_R} (r0 : rf 15 0 = some 16) (r1 : rf 15 1 = some 17) {im : gm_I} {s : Nat} (hs : s < 406) (h : im 15 5 = nI s) (x y : Int32) (lm : gm_L) : gm_den 42 0 [.ref 15, .int x, .int y] [] 21 rf im lm = some (none, 21, rf, gm_up (gm_up (gm_up im 16 s x) 17 s y) 15 5 (nI (s + 1)), lm) := by
  have hlt : ¬ (406 : Int32) ≤ nI s := nI_ge (b := 406) (by omega) (by decide)
  have e1 : gm_up im 16 s x 15 5 = nI s := by rw [gu_ne (by decide)]; exact h
  have e2 : gm_up (gm_up im 16 s x) 17 s y 15 5 = nI s := by rw [gu_ne (by decide)]; exact e1
  simp (decide := true) only [QX2_addStep_21, h, hlt, if_false, r0, r1, i406 s hs, if_true, e1, e2, nI_a1]
def lawsB (im : gm_I) : Prop := im 15 5 = nI 6 ∧ im 18 0 = 0 ∧ im 18 1 = nI 2 ∧ im 18 2 = nI 4 ∧ im 16 0 = 1 ∧ im 16 1 = 2 ∧ im 16 2 = 1 ∧ im 16 3 = 2 ∧ im 16 4 = 0 ∧ im 16 5 = 2 ∧ im 17 0 = 0 ∧ im 17 1 = 0 ∧ im 17 2 = 5 ∧ im 17 3 = 0 ∧ im 17 4 = 0 ∧ im 17 5 = 0
theorem Kbegin {rf : gm_R} (r0 : rf 15 0 = some 16) (r1 : rf 15 1 = some 17) (r2 : rf 15 2 = some 18) (im : gm_I) (lm : gm_L) : ∃ im', gm_den 37 0 [.ref 15] [] 21 rf im lm = some (none, 21, rf, im', lm) ∧ lawsB im' ∧ Fr [15, 16, 17, 18] im im' := by
  let a0 := gm_up (gm_up im 15 5 0) 18 0 0
  let a1 := gm_up (gm_up (gm_up a0 16 0 1) 17 0 0) 15 5 (nI 1)
  let a2 := gm_up (gm_up (gm_up a1 16 1 2) 17 1 0) 15 5 (nI 2)
  let a3 := gm_up a2 18 1 (nI 2)
  let a4 := gm_up (gm_up (gm_up a3 16 2 1) 17 2 5) 15 5 (nI 3)
  let a5 := gm_up (gm_up (gm_up a4 16 3 2) 17 3 0) 15 5 (nI 4)
  let a6 := gm_up a5 18 2 (nI 4)
  let a7 := gm_up (gm_up (gm_up a6 16 4 0) 17 4 0) 15 5 (nI 5)
  let a8 := gm_up (gm_up (gm_up a7 16 5 2) 17 5 0) 15 5 (nI 6)
  have s1 := KaddStep r0 r1 (im := a0) (s := 0) (by decide) rfl 1 0 lm
  have s2 := KaddStep r0 r1 (im := a1) (s := 1) (by decide) rfl 2 0 lm
  have s3 := KaddStep r0 r1 (im := a3) (s := 2) (by decide) rfl 1 5 lm
  have s4 := KaddStep r0 r1 (im := a4) (s := 3) (by decide) rfl 2 0 lm
  have s5 := KaddStep r0 r1 (im := a6) (s := 4) (by decide) rfl 0 0 lm
  have s6 := KaddStep r0 r1 (im := a7) (s := 5) (by decide) rfl 2 0 lm
  refine ⟨a8, ?_, ⟨rfl, rfl, rfl, rfl, rfl, rfl, rfl, rfl, rfl, rfl, rfl, rfl, rfl, rfl, rfl, rfl⟩, ?_⟩
  · have z0 : gm_up im 15 5 0 15 5 = 0 := gu_eq
    have i30 : gm_in 0 3 = true ∧ (0 : Int32).toNatClampNeg = 0 := by decide
    have i31 : gm_in 1 3 = true ∧ (1 : Int32).toNatClampNeg = 1 := by decide
    have i32 : gm_in 2 3 = true ∧ (2 : Int32).toNatClampNeg = 2 := by decide
    have z2 : a2 15 5 = nI 2 := rfl
    have z5 : a5 15 5 = nI 4 := rfl
    simp (decide := true) only [QX2_begin_21, r2, z0, i30, if_true]
    rw [show gm_up (gm_up im 15 5 0) 18 0 0 = a0 from rfl, s1]
    simp (decide := true) only [QX2_begin_21, gm_cont_v]
    refine (congrArg _ s2).trans ?_
    simp (decide := true) only [QX2_begin_21, gm_cont_v, r2, i31, if_true]
    refine (congrArg _ s3).trans ?_
    simp (decide := true) only [QX2_begin_21, gm_cont_v]
    refine (congrArg _ s4).trans ?_
    simp (decide := true) only [QX2_begin_21, gm_cont_v, r2, i32, if_true]
    refine (congrArg _ s5).trans ?_
    simp (decide := true) only [QX2_begin_21, gm_cont_v]
    refine (congrArg _ s6).trans ?_
    simp (decide := true) only [QX2_begin_21, gm_cont_v]
    rfl
  · intro q hq
    simp only [List.mem_cons, List.mem_nil_iff, or_false, not_or] at hq
    obtain ⟨h15, h16, h17, h18⟩ := hq
    show gm_up (gm_up (gm_up (gm_up (gm_up (gm_up (gm_up (gm_up (gm_up (gm_up (gm_up (gm_up (gm_up (gm_up (gm_up (gm_up (gm_up (gm_up (gm_up (gm_up (gm_up (gm_up im 15 5 0) 18 0 0) 16 0 1) 17 0 0) 15 5 (nI 1)) 16 1 2) 17 1 0) 15 5 (nI 2)) 18 1 (nI 2)) 16 2 1) 17 2 5) 15 5 (nI 3)) 16 3 2) 17 3 0) 15 5 (nI 4)) 18 2 (nI 4)) 16 4 0) 17 4 0) 15 5 (nI 5)) 16 5 2) 17 5 0) 15 5 (nI 6) q = _
    simp only [gu_row h15, gu_row h16, gu_row h17, gu_row h18]
