/-! the state as it begins, while cells are made -/
section
variable {rf : gm_R}
theorem K_setN (r0 : rf 21 0 = some 22) (a f : Nat) (v : Int32) (ha : a < 7) (hf : f < 10) (im : gm_I) (lm : gm_L) : gm_den 80 0 [.ref 21, .int (nI a), .int (nI f), .int v] [] 84 rf im lm = some (none, 84, rf, gm_up im 22 (10 * a + f) v, lm) := by
  simp only [QX8_set_84, r0, (ix10 a f ha hf).1, (ix10 a f ha hf).2, if_true]
theorem K_set (r0 : rf 21 0 = some 22) (a : Nat) (v : Int32) (im : gm_I) (lm : gm_L) (ha : a < 7) :
    gm_den 80 0 [.ref 21, .int (nI a), .int 0, .int v] [] 84 rf im lm = some (none, 84, rf, gm_up im 22 (10 * a + 0) v, lm) ∧
    gm_den 80 0 [.ref 21, .int (nI a), .int 1, .int v] [] 84 rf im lm = some (none, 84, rf, gm_up im 22 (10 * a + 1) v, lm) ∧
    gm_den 80 0 [.ref 21, .int (nI a), .int 2, .int v] [] 84 rf im lm = some (none, 84, rf, gm_up im 22 (10 * a + 2) v, lm) ∧
    gm_den 80 0 [.ref 21, .int (nI a), .int 3, .int v] [] 84 rf im lm = some (none, 84, rf, gm_up im 22 (10 * a + 3) v, lm) ∧
    gm_den 80 0 [.ref 21, .int (nI a), .int 4, .int v] [] 84 rf im lm = some (none, 84, rf, gm_up im 22 (10 * a + 4) v, lm) ∧
    gm_den 80 0 [.ref 21, .int (nI a), .int 5, .int v] [] 84 rf im lm = some (none, 84, rf, gm_up im 22 (10 * a + 5) v, lm) ∧
    gm_den 80 0 [.ref 21, .int (nI a), .int 6, .int v] [] 84 rf im lm = some (none, 84, rf, gm_up im 22 (10 * a + 6) v, lm) ∧
    gm_den 80 0 [.ref 21, .int (nI a), .int 7, .int v] [] 84 rf im lm = some (none, 84, rf, gm_up im 22 (10 * a + 7) v, lm) ∧
    gm_den 80 0 [.ref 21, .int (nI a), .int 8, .int v] [] 84 rf im lm = some (none, 84, rf, gm_up im 22 (10 * a + 8) v, lm) ∧
    gm_den 80 0 [.ref 21, .int (nI a), .int 9, .int v] [] 84 rf im lm = some (none, 84, rf, gm_up im 22 (10 * a + 9) v, lm) :=
  ⟨K_setN r0 a 0 v ha (by decide) im lm, K_setN r0 a 1 v ha (by decide) im lm, K_setN r0 a 2 v ha (by decide) im lm, K_setN r0 a 3 v ha (by decide) im lm, K_setN r0 a 4 v ha (by decide) im lm, K_setN r0 a 5 v ha (by decide) im lm, K_setN r0 a 6 v ha (by decide) im lm, K_setN r0 a 7 v ha (by decide) im lm, K_setN r0 a 8 v ha (by decide) im lm, K_setN r0 a 9 v ha (by decide) im lm⟩
theorem K_hush (r0 : rf 21 0 = some 22) (a : Nat) (im : gm_I) (lm : gm_L) (ha : a < 7) : gm_den 81 0 [.ref 21, .int (nI a)] [] 84 rf im lm = some (none, 84, rf, cHush im a, lm) := by
  simp only [QX8_hush_84, K_set r0, ha, gm_cont_v, cHush]
theorem K_toldN (r5 : rf 11 5 = some 12) (a f : Nat) (ha : a < 7) (hf : f < 4) (im : gm_I) (lm : gm_L) : gm_den 59 0 [.ref 11, .int (nI a), .int (nI f)] [] 84 rf im lm = some (some (.int (im 12 (4 * a + f))), 84, rf, im, lm) := by
  simp only [QX5_toldOf_84, r5, (ix4 a f ha hf).1, (ix4 a f ha hf).2, if_true]
theorem K_begin_a (r0 : rf 21 0 = some 22) (r5 : rf 11 5 = some 12) (lm : gm_L) : ∀ (w a : Nat) (im : gm_I), a + w = 7 → ∃ im', gm_den 78 2 [.ref 21, .ref 11, .int (nI a)] [] 84 rf im lm = gm_den 78 77 [.ref 21, .ref 11, .int 0] [] 84 rf im' lm ∧ Fr [22] im im' := by
  intro w
  induction w with
  | zero =>
    intro a im hw
    have : a = 7 := by omega
    subst this
    have hle : (7 : Int32) ≤ nI 7 := by decide
    refine ⟨im, ?_, Fr.rf _ _⟩
    rw [LX8_begin_84_2]
    simp (decide := true) only [QX8_begin_84, hle, if_true]
  | succ w ih =>
    intro a im hw
    have ha : a < 7 := by omega
    have hlt : ¬ (7 : Int32) ≤ nI a := nI_ge (b := 7) (by omega) (by decide)
    have t0 : ∀ im : gm_I, gm_den 59 0 [.ref 11, .int (nI a), .int 0] [] 84 rf im lm = some (some (.int (im 12 (4 * a + 0))), 84, rf, im, lm) := fun im => K_toldN r5 a 0 ha (by decide) im lm
    have t3 : ∀ im : gm_I, gm_den 59 0 [.ref 11, .int (nI a), .int 3] [] 84 rf im lm = some (some (.int (im 12 (4 * a + 3))), 84, rf, im, lm) := fun im => K_toldN r5 a 3 ha (by decide) im lm
    let i1 := gm_up im 22 (10 * a + 0) (im 12 (4 * a + 0))
    let i2 := gm_up i1 22 (10 * a + 1) (-2)
    let i3 := gm_up i2 22 (10 * a + 2) (i2 12 (4 * a + 3))
    let i4 := gm_up i3 22 (10 * a + 5) 0
    let i5 := gm_up i4 22 (10 * a + 6) (-2)
    let i6 := gm_up i5 22 (10 * a + 9) 0
    obtain ⟨im', h1, h2⟩ := ih (a + 1) (cHush i6 a) (by omega)
    have hF : Fr [22] im (cHush i6 a) := ((((((((((Fr.rf [22] im).up (by simp)).up (by simp)).up (by simp)).up (by simp)).up (by simp)).up (by simp)).up (by simp)).up (by simp)).up (by simp)).up (by simp)
    refine ⟨im', ?_, hF.tr h2⟩
    rw [← h1, LX8_begin_84_2]
    simp (decide := true) only [QX8_begin_84, hlt, if_false, t0, t3, gm_cont_i, gm_cont_v, K_set r0 a _ _ lm ha, K_hush r0 a _ lm ha, nI_a1]
    rfl
theorem K_begin_b (r0 : rf 21 0 = some 22) (lm : gm_L) : ∀ (w m : Nat) (im : gm_I), m + w = 5 → ∃ im', gm_den 78 77 [.ref 21, .ref 11, .int (nI m)] [] 84 rf im lm = some (none, 84, rf, im', lm) ∧ Fr [22] im im' ∧ im' 22 75 = 0 ∧ im' 22 76 = 0 := by
  intro w
  induction w with
  | zero =>
    intro m im hw
    have : m = 5 := by omega
    subst this
    have hle : (5 : Int32) ≤ nI 5 := by decide
    have i75 : gm_in 75 77 = true ∧ (75 : Int32).toNatClampNeg = 75 := by decide
    have i76 : gm_in 76 77 = true ∧ (76 : Int32).toNatClampNeg = 76 := by decide
    refine ⟨gm_up (gm_up im 22 75 0) 22 76 0, ?_, ((Fr.rf [22] im).up (by simp)).up (by simp), ?_, gu_eq⟩
    · rw [LX8_begin_84_77]
      simp (decide := true) only [QX8_begin_84, hle, if_true, r0, i75, i76]
    · rw [gu_nk (by decide), gu_eq]
  | succ w ih =>
    intro m im hw
    have hlt : ¬ (5 : Int32) ≤ nI m := nI_ge (b := 5) (by omega) (by decide)
    obtain ⟨im', h1, h2, h3⟩ := ih (m + 1) (gm_up im 22 (70 + m) (-2)) (by omega)
    refine ⟨im', ?_, Fr.tr ((Fr.rf [22] im).up (by simp)) h2, h3⟩
    rw [← h1, LX8_begin_84_77]
    simp (decide := true) only [QX8_begin_84, hlt, if_false, r0, (ix70 m (by omega)).1, (ix70 m (by omega)).2, if_true, nI_a1]
theorem K_begin (r0 : rf 21 0 = some 22) (r5 : rf 11 5 = some 12) (im : gm_I) (lm : gm_L) : ∃ im', gm_den 78 0 [.ref 21, .ref 11, .null] [] 84 rf im lm = some (none, 84, rf, im', lm) ∧ Fr [22] im im' ∧ im' 22 75 = 0 ∧ im' 22 76 = 0 := by
  obtain ⟨i1, h1, f1⟩ := K_begin_a r0 r5 lm 7 0 im (by decide)
  obtain ⟨i2, h2, f2, h3⟩ := K_begin_b r0 lm 5 0 i1 (by decide)
  refine ⟨i2, ?_, f1.tr f2, h3⟩
  refine Eq.trans ?_ (h1.trans h2)
  simp (decide := true) only [QX8_begin_84]
  rfl
end
