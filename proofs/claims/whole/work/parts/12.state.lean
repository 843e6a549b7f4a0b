/-! the class: State, Roll -/
theorem nI_mul (a b : Nat) : nI a * nI b = nI (a * b) := pk_mul a b
theorem ix_nat {x : Int32} {z : Nat} (m : Nat) (h : x = nI m) (hm : m < z) (hz : z < 2 ^ 31) : gm_in x z = true ∧ x.toNatClampNeg = m := by
  subst h
  exact ⟨gm_in_nI hm hz, nI_clamp (by omega)⟩
theorem ix10 (a f : Nat) (ha : a < 7) (hf : f < 10) : gm_in (nI a * 10 + nI f) 77 = true ∧ (nI a * 10 + nI f).toNatClampNeg = 10 * a + f :=
  ix_nat (10 * a + f) (by rw [show (10 : Int32) = nI 10 from rfl, nI_mul, nI_add, Nat.mul_comm]) (by omega) (by decide)
theorem C_getI (m f : Int32) (im : gm_I) (lm : gm_L) : gm_den 79 0 [.ref 21, .int m, .int f] [] 128 gm_RF im lm = if gm_in (m * 10 + f) 77 = true then some (some (.int (im 22 (m * 10 + f).toNatClampNeg)), 128, gm_RF, im, lm) else none := by
  simp only [QX8_get]
theorem C_getN (a f : Nat) (ha : a < 7) (hf : f < 10) (im : gm_I) (lm : gm_L) : gm_den 79 0 [.ref 21, .int (nI a), .int (nI f)] [] 128 gm_RF im lm = some (some (.int (im 22 (10 * a + f))), 128, gm_RF, im, lm) := by
  rw [C_getI, (ix10 a f ha hf).1, (ix10 a f ha hf).2, if_pos rfl]
theorem C_get (a : Nat) (im : gm_I) (lm : gm_L) (ha : a < 7) :
    gm_den 79 0 [.ref 21, .int (nI a), .int 0] [] 128 gm_RF im lm = some (some (.int (im 22 (10 * a + 0))), 128, gm_RF, im, lm) ∧
    gm_den 79 0 [.ref 21, .int (nI a), .int 1] [] 128 gm_RF im lm = some (some (.int (im 22 (10 * a + 1))), 128, gm_RF, im, lm) ∧
    gm_den 79 0 [.ref 21, .int (nI a), .int 2] [] 128 gm_RF im lm = some (some (.int (im 22 (10 * a + 2))), 128, gm_RF, im, lm) ∧
    gm_den 79 0 [.ref 21, .int (nI a), .int 3] [] 128 gm_RF im lm = some (some (.int (im 22 (10 * a + 3))), 128, gm_RF, im, lm) ∧
    gm_den 79 0 [.ref 21, .int (nI a), .int 4] [] 128 gm_RF im lm = some (some (.int (im 22 (10 * a + 4))), 128, gm_RF, im, lm) ∧
    gm_den 79 0 [.ref 21, .int (nI a), .int 5] [] 128 gm_RF im lm = some (some (.int (im 22 (10 * a + 5))), 128, gm_RF, im, lm) ∧
    gm_den 79 0 [.ref 21, .int (nI a), .int 6] [] 128 gm_RF im lm = some (some (.int (im 22 (10 * a + 6))), 128, gm_RF, im, lm) ∧
    gm_den 79 0 [.ref 21, .int (nI a), .int 7] [] 128 gm_RF im lm = some (some (.int (im 22 (10 * a + 7))), 128, gm_RF, im, lm) ∧
    gm_den 79 0 [.ref 21, .int (nI a), .int 8] [] 128 gm_RF im lm = some (some (.int (im 22 (10 * a + 8))), 128, gm_RF, im, lm) ∧
    gm_den 79 0 [.ref 21, .int (nI a), .int 9] [] 128 gm_RF im lm = some (some (.int (im 22 (10 * a + 9))), 128, gm_RF, im, lm) :=
  ⟨C_getN a 0 ha (by decide) im lm, C_getN a 1 ha (by decide) im lm, C_getN a 2 ha (by decide) im lm, C_getN a 3 ha (by decide) im lm, C_getN a 4 ha (by decide) im lm, C_getN a 5 ha (by decide) im lm, C_getN a 6 ha (by decide) im lm, C_getN a 7 ha (by decide) im lm, C_getN a 8 ha (by decide) im lm, C_getN a 9 ha (by decide) im lm⟩
theorem C_setN (a f : Nat) (v : Int32) (ha : a < 7) (hf : f < 10) (im : gm_I) (lm : gm_L) : gm_den 80 0 [.ref 21, .int (nI a), .int (nI f), .int v] [] 128 gm_RF im lm = some (none, 128, gm_RF, gm_up im 22 (10 * a + f) v, lm) := by
  simp only [QX8_set, (ix10 a f ha hf).1, (ix10 a f ha hf).2, if_true]
theorem C_set (a : Nat) (v : Int32) (im : gm_I) (lm : gm_L) (ha : a < 7) :
    gm_den 80 0 [.ref 21, .int (nI a), .int 0, .int v] [] 128 gm_RF im lm = some (none, 128, gm_RF, gm_up im 22 (10 * a + 0) v, lm) ∧
    gm_den 80 0 [.ref 21, .int (nI a), .int 1, .int v] [] 128 gm_RF im lm = some (none, 128, gm_RF, gm_up im 22 (10 * a + 1) v, lm) ∧
    gm_den 80 0 [.ref 21, .int (nI a), .int 2, .int v] [] 128 gm_RF im lm = some (none, 128, gm_RF, gm_up im 22 (10 * a + 2) v, lm) ∧
    gm_den 80 0 [.ref 21, .int (nI a), .int 3, .int v] [] 128 gm_RF im lm = some (none, 128, gm_RF, gm_up im 22 (10 * a + 3) v, lm) ∧
    gm_den 80 0 [.ref 21, .int (nI a), .int 4, .int v] [] 128 gm_RF im lm = some (none, 128, gm_RF, gm_up im 22 (10 * a + 4) v, lm) ∧
    gm_den 80 0 [.ref 21, .int (nI a), .int 5, .int v] [] 128 gm_RF im lm = some (none, 128, gm_RF, gm_up im 22 (10 * a + 5) v, lm) ∧
    gm_den 80 0 [.ref 21, .int (nI a), .int 6, .int v] [] 128 gm_RF im lm = some (none, 128, gm_RF, gm_up im 22 (10 * a + 6) v, lm) ∧
    gm_den 80 0 [.ref 21, .int (nI a), .int 7, .int v] [] 128 gm_RF im lm = some (none, 128, gm_RF, gm_up im 22 (10 * a + 7) v, lm) ∧
    gm_den 80 0 [.ref 21, .int (nI a), .int 8, .int v] [] 128 gm_RF im lm = some (none, 128, gm_RF, gm_up im 22 (10 * a + 8) v, lm) ∧
    gm_den 80 0 [.ref 21, .int (nI a), .int 9, .int v] [] 128 gm_RF im lm = some (none, 128, gm_RF, gm_up im 22 (10 * a + 9) v, lm) :=
  ⟨C_setN a 0 v ha (by decide) im lm, C_setN a 1 v ha (by decide) im lm, C_setN a 2 v ha (by decide) im lm, C_setN a 3 v ha (by decide) im lm, C_setN a 4 v ha (by decide) im lm, C_setN a 5 v ha (by decide) im lm, C_setN a 6 v ha (by decide) im lm, C_setN a 7 v ha (by decide) im lm, C_setN a 8 v ha (by decide) im lm, C_setN a 9 v ha (by decide) im lm⟩
/-- silent again -/
def cHush (im : gm_I) (a : Nat) : gm_I := gm_up (gm_up (gm_up (gm_up im 22 (10 * a + 3) (-2)) 22 (10 * a + 4) (-2)) 22 (10 * a + 7) (-2)) 22 (10 * a + 8) (-1)
theorem C_hush (a : Nat) (im : gm_I) (lm : gm_L) (ha : a < 7) : gm_den 81 0 [.ref 21, .int (nI a)] [] 128 gm_RF im lm = some (none, 128, gm_RF, cHush im a, lm) := by
  simp only [QX8_hush, C_set, ha, gm_cont_v, cHush]
theorem gb_if {P : Prop} [Decidable P] : narrow .boolean (.int (if P then 1 else 0)) = .int (if P then 1 else 0) := by split <;> rfl
theorem C_isSworn (a : Nat) (im : gm_I) (lm : gm_L) (ha : a < 7) : gm_den 82 0 [.ref 21, .int (nI a)] [] 128 gm_RF im lm = some (some (.int (if im 22 (10 * a + 1) = -2 then 0 else 1)), 128, gm_RF, im, lm) := by
  simp only [QX8_isSworn, C_get, ha, gm_cont_i]
  split <;> rfl
theorem C_behind (s n : Int32) (im : gm_I) (lm : gm_L) : gm_den 84 0 [.int s, .int n] [] 128 gm_RF im lm = some (some (.int (if n ≤ s + 1 then 0 else s + 1)), 128, gm_RF, im, lm) := by
  simp only [QX8_behind]
  split <;> rfl
def sPl (left side sides : Int32) : Int32 := if left = -2 then (if sides ≤ side + 1 then 0 else side + 1) else left
theorem C_pleadsFor (a : Nat) (n : Int32) (im : gm_I) (lm : gm_L) (ha : a < 7) : gm_den 83 0 [.ref 21, .int (nI a), .int n, .null] [] 128 gm_RF im lm = some (some (.int (sPl (im 22 (10 * a + 1)) (im 22 (10 * a + 0)) n)), 128, gm_RF, im, lm) := by
  simp only [QX8_pleadsFor, C_get, ha, gm_cont_i, C_behind, gm_cat_i, sPl]
  split <;> simp_all
theorem C_day (im : gm_I) (lm : gm_L) : gm_den 87 0 [.ref 21] [] 128 gm_RF im lm = some (some (.int (im 22 75)), 128, gm_RF, im, lm) := by
  simp only [QX8_day]
  rfl
theorem C_paid (im : gm_I) (lm : gm_L) : gm_den 86 0 [.ref 21] [] 128 gm_RF im lm = some (some (.int (im 22 76)), 128, gm_RF, im, lm) := by
  simp only [QX8_paid]
  rfl
theorem ix70 (m : Nat) (hm : m < 5) : gm_in (70 + nI m) 77 = true ∧ (70 + nI m).toNatClampNeg = 70 + m :=
  ix_nat (70 + m) (by rw [show (70 : Int32) = nI 70 from rfl, nI_add]) (by omega) (by decide)
theorem C_fellTo (m : Nat) (im : gm_I) (lm : gm_L) (hm : m < 5) : gm_den 88 0 [.ref 21, .int (nI m)] [] 128 gm_RF im lm = some (some (.int (im 22 (70 + m))), 128, gm_RF, im, lm) := by
  simp only [QX8_fellTo, (ix70 m hm).1, (ix70 m hm).2, if_true]
theorem C_fall (m : Nat) (s : Int32) (im : gm_I) (lm : gm_L) (hm : m < 5) : gm_den 89 0 [.ref 21, .int (nI m), .int s] [] 128 gm_RF im lm = some (none, 128, gm_RF, gm_up (gm_up im 22 (70 + m) s) 22 75 (im 22 75 + 1), lm) := by
  have h9 : ¬ 75 = 70 + m := by omega
  simp only [QX8_fall, (ix70 m hm).1, (ix70 m hm).2, if_true]
  simp [gm_up, h9, show gm_in 75 77 = true from rfl, show (75 : Int32).toNatClampNeg = 75 from rfl]
theorem C_pay (a : Nat) (v : Int32) (im : gm_I) (lm : gm_L) (ha : a < 7) : gm_den 85 0 [.ref 21, .int (nI a), .int v] [] 128 gm_RF im lm = some (none, 128, gm_RF, gm_up (gm_up im 22 (10 * a + 2) (im 22 (10 * a + 2) - v)) 22 76 (im 22 76 + v), lm) := by
  have h9 : ¬ 76 = 10 * a + 2 := by omega
  simp only [QX8_pay, C_get, C_set, ha, gm_cont_i, gm_cont_v]
  simp [gm_up, h9, show gm_in 76 77 = true from rfl, show (76 : Int32).toNatClampNeg = 76 from rfl]
/-- Roll -/
theorem ix4 (a f : Nat) (ha : a < 7) (hf : f < 4) : gm_in (nI a * 4 + nI f) 28 = true ∧ (nI a * 4 + nI f).toNatClampNeg = 4 * a + f :=
  ix_nat (4 * a + f) (by rw [show (4 : Int32) = nI 4 from rfl, nI_mul, nI_add, Nat.mul_comm]) (by omega) (by decide)
theorem C_toldN (a f : Nat) (ha : a < 7) (hf : f < 4) (im : gm_I) (lm : gm_L) : gm_den 59 0 [.ref 11, .int (nI a), .int (nI f)] [] 128 gm_RF im lm = some (some (.int (im 12 (4 * a + f))), 128, gm_RF, im, lm) := by
  simp only [QX5_toldOf, (ix4 a f ha hf).1, (ix4 a f ha hf).2, if_true]
theorem C_told (a : Nat) (im : gm_I) (lm : gm_L) (ha : a < 7) :
    gm_den 59 0 [.ref 11, .int (nI a), .int 0] [] 128 gm_RF im lm = some (some (.int (im 12 (4 * a + 0))), 128, gm_RF, im, lm) ∧
    gm_den 59 0 [.ref 11, .int (nI a), .int 1] [] 128 gm_RF im lm = some (some (.int (im 12 (4 * a + 1))), 128, gm_RF, im, lm) ∧
    gm_den 59 0 [.ref 11, .int (nI a), .int 2] [] 128 gm_RF im lm = some (some (.int (im 12 (4 * a + 2))), 128, gm_RF, im, lm) ∧
    gm_den 59 0 [.ref 11, .int (nI a), .int 3] [] 128 gm_RF im lm = some (some (.int (im 12 (4 * a + 3))), 128, gm_RF, im, lm) :=
  ⟨C_toldN a 0 ha (by decide) im lm, C_toldN a 1 ha (by decide) im lm, C_toldN a 2 ha (by decide) im lm, C_toldN a 3 ha (by decide) im lm⟩
theorem C_slipOf (a : Nat) (im : gm_I) (lm : gm_L) (ha : a < 7) : gm_den 60 0 [.ref 11, .int (nI a)] [] 128 gm_RF im lm = some (some (.int (im 12 (4 * a + 2))), 128, gm_RF, im, lm) := by
  simp only [QX5_slipOf, C_told, ha, gm_cont_i]
theorem ix3 (m s : Nat) (hm : m < 5) (hs : s < 3) : gm_in (nI m * 3 + nI s) 15 = true ∧ (nI m * 3 + nI s).toNatClampNeg = 3 * m + s :=
  ix_nat (3 * m + s) (by rw [show (3 : Int32) = nI 3 from rfl, nI_mul, nI_add, Nat.mul_comm]) (by omega) (by decide)
theorem C_worthOf (m s : Nat) (im : gm_I) (lm : gm_L) (hm : m < 5) (hs : s < 3) : gm_den 61 0 [.ref 11, .int (nI m), .int (nI s)] [] 128 gm_RF im lm = some (some (.int (im 13 (3 * m + s))), 128, gm_RF, im, lm) := by
  simp only [QX5_worthOf, (ix3 m s hm hs).1, (ix3 m s hm hs).2, if_true]
/-- the private questions of WorseSenate -/
theorem C_isMan (a : Int32) (im : gm_I) (lm : gm_L) : gm_den 146 0 [.ref 0, .int a] [] 128 gm_RF im lm = some (some (.int (if 0 ≤ a ∧ a < im 11 2 then 1 else 0)), 128, gm_RF, im, lm) := by
  simp only [QX11_isMan]
  by_cases h1 : a < 0
  · have : ¬ 0 ≤ a := Int32.not_le.mpr h1
    simp [h1, this]
  · have h3 : 0 ≤ a := Int32.not_lt.mp h1
    by_cases h2 : im 11 2 ≤ a
    · have : ¬ a < im 11 2 := Int32.not_lt.mpr h2
      simp [h1, h2, this]
    · have h4 : a < im 11 2 := Int32.not_le.mp h2
      simp [h1, h2, h3, h4]
theorem C_isMotion (a : Int32) (im : gm_I) (lm : gm_L) : gm_den 147 0 [.ref 0, .int a] [] 128 gm_RF im lm = some (some (.int (if 0 ≤ a ∧ a < im 11 3 then 1 else 0)), 128, gm_RF, im, lm) := by
  simp only [QX11_isMotion]
  by_cases h1 : a < 0
  · have : ¬ 0 ≤ a := Int32.not_le.mpr h1
    simp [h1, this]
  · have h3 : 0 ≤ a := Int32.not_lt.mp h1
    by_cases h2 : im 11 3 ≤ a
    · have : ¬ a < im 11 3 := Int32.not_lt.mpr h2
      simp [h1, h2, this]
    · have h4 : a < im 11 3 := Int32.not_le.mp h2
      simp [h1, h2, h3, h4]
theorem C_isSide (a : Int32) (im : gm_I) (lm : gm_L) : gm_den 148 0 [.ref 0, .int a] [] 128 gm_RF im lm = some (some (.int (if 0 ≤ a ∧ a < im 11 0 then 1 else 0)), 128, gm_RF, im, lm) := by
  simp only [QX11_isSide]
  by_cases h1 : a < 0
  · have : ¬ 0 ≤ a := Int32.not_le.mpr h1
    simp [h1, this]
  · have h3 : 0 ≤ a := Int32.not_lt.mp h1
    by_cases h2 : im 11 0 ≤ a
    · have : ¬ a < im 11 0 := Int32.not_lt.mpr h2
      simp [h1, h2, this]
    · have h4 : a < im 11 0 := Int32.not_le.mp h2
      simp [h1, h2, h3, h4]
theorem C_isManner (a : Int32) (im : gm_I) (lm : gm_L) : gm_den 149 0 [.int a] [] 128 gm_RF im lm = some (some (.int (if 0 ≤ a ∧ a < 4 then 1 else 0)), 128, gm_RF, im, lm) := by
  simp only [QX11_isManner]
  by_cases h1 : a < 0
  · have : ¬ 0 ≤ a := Int32.not_le.mpr h1
    simp [h1, this]
  · have h3 : 0 ≤ a := Int32.not_lt.mp h1
    by_cases h2 : 4 ≤ a
    · have : ¬ a < 4 := Int32.not_lt.mpr h2
      simp [h1, h2, this]
    · have h4 : a < 4 := Int32.not_le.mp h2
      simp [h1, h2, h3, h4]
theorem C_isSilent (a : Nat) (im : gm_I) (lm : gm_L) (ha : a < 7) : gm_den 150 0 [.ref 0, .int (nI a)] [] 128 gm_RF im lm = some (some (.int (if im 22 (10 * a + 3) = -2 then 1 else 0)), 128, gm_RF, im, lm) := by
  simp only [QX11_isSilent, C_get, ha, gm_cont_i]
  split <;> simp_all
