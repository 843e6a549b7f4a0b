/-! the reference's small methods -/
theorem M_in (v a b : Int32) (im : gm_I) (lm : gm_L) : gm_den 200 0 [.int v, .int a, .int b] [] 128 gm_RF im lm = some (some (.int (if a ≤ v ∧ v ≤ b then 1 else 0)), 128, gm_RF, im, lm) := by
  simp only [QX12_in, nb0, nb1]
  by_cases h1 : v < a
  · have : ¬ a ≤ v := Int32.not_le.mpr h1
    simp [h1, this]
  · by_cases h2 : b < v
    · have : ¬ v ≤ b := Int32.not_le.mpr h2
      simp [h1, h2, this]
    · have h3 : a ≤ v := Int32.not_lt.mp h1
      have h4 : v ≤ b := Int32.not_lt.mp h2
      simp [h1, h2, h3, h4]
/-- the side of the double rows that is in use -/
def mLv (im : gm_I) : Nat := (im 84 18).toNatClampNeg
def mLvOk (im : gm_I) : Prop := gm_in (im 84 18) 2 = true
theorem M_isMan (a : Int32) (im : gm_I) (lm : gm_L) (h : mLvOk im) : gm_den 202 0 [.ref 84, .int a] [] 128 gm_RF im lm = some (some (.int (if 0 ≤ a ∧ a ≤ im 94 (mLv im) - 1 then 1 else 0)), 128, gm_RF, im, lm) := by
  have h : gm_in (im 84 18) 2 = true := h
  have hb : ∀ P : Prop, [Decidable P] → narrow .boolean (.int (if P then 1 else 0)) = .int (if P then 1 else 0) := fun P _ => by split <;> rfl
  simp only [QX12_isMan, h, if_true, M_in, gm_cont_i, hb, mLv]
  rfl
theorem M_isMotion (a : Int32) (im : gm_I) (lm : gm_L) (h : mLvOk im) : gm_den 203 0 [.ref 84, .int a] [] 128 gm_RF im lm = some (some (.int (if 0 ≤ a ∧ a ≤ im 99 (mLv im) - 1 then 1 else 0)), 128, gm_RF, im, lm) := by
  have h : gm_in (im 84 18) 2 = true := h
  have hb : ∀ P : Prop, [Decidable P] → narrow .boolean (.int (if P then 1 else 0)) = .int (if P then 1 else 0) := fun P _ => by split <;> rfl
  simp only [QX12_isMotion, h, if_true, M_in, gm_cont_i, hb, mLv]
  rfl
theorem M_isSide (a : Int32) (im : gm_I) (lm : gm_L) (h : mLvOk im) : gm_den 204 0 [.ref 84, .int a] [] 128 gm_RF im lm = some (some (.int (if 0 ≤ a ∧ a ≤ im 93 (mLv im) - 1 then 1 else 0)), 128, gm_RF, im, lm) := by
  have h : gm_in (im 84 18) 2 = true := h
  have hb : ∀ P : Prop, [Decidable P] → narrow .boolean (.int (if P then 1 else 0)) = .int (if P then 1 else 0) := fun P _ => by split <;> rfl
  simp only [QX12_isSide, h, if_true, M_in, gm_cont_i, hb, mLv]
  rfl
/-- row by row: copies -/
def mCp (im : gm_I) (b a w : Nat) : gm_I := fun q j => if q = b ∧ j < w then im a j else im q j
theorem M_keepsRow_loop (im0 : gm_I) (lm : gm_L) (j : Nat) (hj : j ≤ 80) : gm_den 206 2 [.ref 84, .int (nI j)] [] 128 gm_RF (mCp im0 116 117 j) lm = some (none, 128, gm_RF, mCp im0 116 117 80, lm) := by
  obtain ⟨w, hw⟩ : ∃ w, j + w = 80 := ⟨80 - j, by omega⟩
  induction w generalizing j with
  | zero =>
    have : j = 80 := by omega
    subst this
    rw [LX12_keepsRow_2]
    simp only [QX12_keepsRow]
    rw [if_pos (by decide)]
  | succ w ih =>
    rw [LX12_keepsRow_2]
    have h1 : gm_in (nI j) 80 = true := gm_in_nI (by omega) (by decide)
    have h2 : ¬ (80 : Int32) ≤ nI j := nI_ge (b := 80) (by omega) (by decide)
    have h3 : (nI j).toNatClampNeg = j := nI_clamp (by omega)
    simp only [QX12_keepsRow, h1, h2, if_true, if_false, h3, gm_cat_r]
    have h4 : gm_up (mCp im0 116 117 j) 116 j (mCp im0 116 117 j 117 j) = mCp im0 116 117 (j + 1) := by
      funext q i
      unfold gm_up mCp
      by_cases hq : q = 116
      · subst hq
        by_cases hi : i = j
        · subst hi; simp
        · by_cases hlt : i < j
          · simp [hi, hlt, Nat.lt_succ_of_lt hlt]
          · simp [hi, hlt, show ¬ i < j + 1 by omega]
      · simp [hq]
    rw [h4, nI_1]
    exact ih (j + 1) (by omega) (by omega)
theorem M_keepsRow (im : gm_I) (lm : gm_L) : gm_den 206 0 [.ref 84, .null] [] 128 gm_RF im lm = some (none, 128, gm_RF, mCp im 116 117 80, lm) := by
  have h := M_keepsRow_loop im lm 0 (by omega)
  have h0 : mCp im 116 117 0 = im := by funext q j; simp [mCp]
  rw [h0] at h
  simp only [QX12_keepsRow, gm_cat_r]
  exact h
