/-! the reference: speeches -/
theorem ix7 (l a : Nat) (hl : l < 2) (ha : a < 7) : gm_in (7 * nI l + nI a) 14 = true ∧ (7 * nI l + nI a).toNatClampNeg = 7 * l + a :=
  ix_nat (7 * l + a) (by rw [show (7 : Int32) = nI 7 from rfl, nI_mul, nI_add]) (by omega) (by decide)
theorem ixr (c a : Nat) (hc : c ≤ 70) (ha : a < 7) : gm_in (nI c + nI a) 80 = true ∧ (nI c + nI a).toNatClampNeg = c + a :=
  ix_nat (c + a) (by rw [nI_add]) (by omega) (by decide)
theorem ixr7 (a : Nat) (ha : a < 7) : (gm_in (7 + nI a) 80 = true ∧ (7 + nI a).toNatClampNeg = 7 + a) ∧ (gm_in (14 + nI a) 80 = true ∧ (14 + nI a).toNatClampNeg = 14 + a) ∧ (gm_in (21 + nI a) 80 = true ∧ (21 + nI a).toNatClampNeg = 21 + a) ∧ (gm_in (28 + nI a) 80 = true ∧ (28 + nI a).toNatClampNeg = 28 + a) ∧ (gm_in (35 + nI a) 80 = true ∧ (35 + nI a).toNatClampNeg = 35 + a) ∧ (gm_in (42 + nI a) 80 = true ∧ (42 + nI a).toNatClampNeg = 42 + a) ∧ (gm_in (49 + nI a) 80 = true ∧ (49 + nI a).toNatClampNeg = 49 + a) ∧ (gm_in (56 + nI a) 80 = true ∧ (56 + nI a).toNatClampNeg = 56 + a) ∧ (gm_in (63 + nI a) 80 = true ∧ (63 + nI a).toNatClampNeg = 63 + a) ∧ (gm_in (nI a) 80 = true ∧ (nI a).toNatClampNeg = a) :=
  ⟨ixr 7 a (by decide) ha, ixr 14 a (by decide) ha, ixr 21 a (by decide) ha, ixr 28 a (by decide) ha, ixr 35 a (by decide) ha, ixr 42 a (by decide) ha, ixr 49 a (by decide) ha, ixr 56 a (by decide) ha, ixr 63 a (by decide) ha, gm_in_nI (by omega) (by decide), nI_clamp (by omega)⟩
theorem ixm (m : Nat) (hm : m < 5) : gm_in (70 + nI m) 80 = true ∧ (70 + nI m).toNatClampNeg = 70 + m :=
  ix_nat (70 + m) (by rw [show (70 : Int32) = nI 70 from rfl, nI_add]) (by omega) (by decide)
theorem i75 : gm_in 75 80 = true ∧ (75 : Int32).toNatClampNeg = 75 := by decide
theorem i76 : gm_in 76 80 = true ∧ (76 : Int32).toNatClampNeg = 76 := by decide
theorem i2 (l : Nat) (hl : l < 2) : gm_in (nI l) 2 = true ∧ (nI l).toNatClampNeg = l := ⟨gm_in_nI hl (by decide), nI_clamp (by omega)⟩
def mPl (left side sides : Int32) : Int32 := if 0 ≤ left then left else (side + 1) - (side + 1) / sides * sides
theorem M_pleadsFor (a l : Nat) (im : gm_I) (lm : gm_L) (ha : a < 7) (hl : im 84 18 = nI l) (hl2 : l < 2) (hs : ¬ im 93 l = 0) : gm_den 210 0 [.ref 84, .int (nI a)] [] 128 gm_RF im lm = some (some (.int (mPl (im 117 (7 + a)) (im 117 a) (im 93 l))), 128, gm_RF, im, lm) := by
  by_cases h : im 117 (7 + a) < 0
  · have h0 : ¬ 0 ≤ im 117 (7 + a) := Int32.not_le.mpr h
    simp only [QX12_pleadsFor, ixr7 a ha, hl, i2 l hl2, if_true, if_false, h, hs, mPl, h0]
  · have h0 : 0 ≤ im 117 (7 + a) := Int32.not_lt.mp h
    simp only [QX12_pleadsFor, ixr7 a ha, hl, i2 l hl2, if_true, if_false, h, hs, mPl, h0]
def mLk (im : gm_I) (l a : Nat) (manner slip : Int32) : gm_I := gm_up (gm_up (gm_up (gm_up (gm_up (gm_up (gm_up (gm_up (gm_up im 114 0 (im 96 (7 * l + a))) 114 1 manner) 114 2 slip) 114 3 (im 117 (35 + a))) 114 4 (im 117 75)) 114 5 0) 114 6 0) 114 7 (nI a)) 114 8 (if im 117 (7 + a) < 0 then 0 else 1)
theorem M_looks (a l : Nat) (manner slip : Int32) (im : gm_I) (lm : gm_L) (ha : a < 7) (hl : im 84 18 = nI l) (hl2 : l < 2) : gm_den 211 0 [.ref 84, .int (nI a), .int manner, .int slip] [] 128 gm_RF im lm = some (none, 128, gm_RF, mLk im l a manner slip, lm) := by
  by_cases h : im 117 (7 + a) < 0
  · simp (decide := true) only [QX12_looks, ixr7 a ha, ix7 l a hl2 ha, i75, hl, if_true, if_false, h, gu_ne, mLk]
    rfl
  · simp (decide := true) only [QX12_looks, ixr7 a ha, ix7 l a hl2 ha, i75, hl, if_true, if_false, h, gu_ne, mLk]
    rfl
def mClamp (lo hi v : Int32) : Int32 := if v < lo then lo else if hi < v then hi else v
/-- a law's value, or what stands in its place if it was not told -/
def mLaw (im : gm_I) (ix : Nat) (plain : Int32) (va : Nat → Int32) : Int32 := if im 104 ix < im 105 ix then mLw im ix va else plain
theorem ix3k (l k : Nat) (hl : l < 2) (hk : k < 3) : gm_in (3 * nI l + nI k) 6 = true ∧ (3 * nI l + nI k).toNatClampNeg = 3 * l + k :=
  ix_nat (3 * l + k) (by rw [show (3 : Int32) = nI 3 from rfl, nI_mul, nI_add]) (by omega) (by decide)
theorem n3k (l k : Nat) : 3 * nI l + nI k = nI (3 * l + k) := by rw [show (3 : Int32) = nI 3 from rfl, nI_mul, nI_add]
theorem M_asksN (k l : Nat) (plain lo hi : Int32) (im : gm_I) (lm : gm_L) (hk : k < 3) (hl : im 84 18 = nI l) (hl2 : l < 2) (hok : mLawOk im (3 * l + k)) : ∃ im', gm_den 212 0 [.ref 84, .int (nI k), .int plain, .int lo, .int hi, .null, .null] [] 128 gm_RF im lm = some (some (.int (mClamp lo hi (mLaw im (3 * l + k) plain (im 114)))), 128, gm_RF, im', lm) ∧ mOff im im' := by
  have hin : gm_in (nI (3 * l + k)) 6 = true := gm_in_nI (by omega) (by decide)
  have hcl : (nI (3 * l + k)).toNatClampNeg = 3 * l + k := nI_clamp (by omega)
  by_cases h : im 104 (3 * l + k) < im 105 (3 * l + k)
  · obtain ⟨im', h1, h2⟩ := M_lawTells im lm (3 * l + k) (by omega) hok
    have hge : ¬ im 105 (3 * l + k) ≤ im 104 (3 * l + k) := Int32.not_le.mpr h
    refine ⟨im', ?_, h2⟩
    simp only [QX12_asks, hl, n3k, hin, hcl, if_true, if_false, hge, h1, gm_cont_i, gm_cat_i, mLaw, h, mClamp]
    generalize mLw im (3 * l + k) (im 114) = v
    by_cases h3 : v < lo
    · have : ¬ lo ≤ v := Int32.not_le.mpr h3
      simp [h3, this]
    · have h4 : lo ≤ v := Int32.not_lt.mp h3
      by_cases h5 : hi < v
      · have : ¬ v ≤ hi := Int32.not_le.mpr h5
        simp [h3, h4, h5, this]
      · have h6 : v ≤ hi := Int32.not_lt.mp h5
        simp [h3, h4, h5, h6]
  · have hge : im 105 (3 * l + k) ≤ im 104 (3 * l + k) := Int32.not_lt.mp h
    refine ⟨im, ?_, mOff.rf im⟩
    simp only [QX12_asks, hl, n3k, hin, hcl, if_true, if_false, hge, gm_cont_i, gm_cat_i, mLaw, h, mClamp]
    by_cases h3 : plain < lo
    · have : ¬ lo ≤ plain := Int32.not_le.mpr h3
      simp [h3, this]
    · have h4 : lo ≤ plain := Int32.not_lt.mp h3
      by_cases h5 : hi < plain
      · have : ¬ plain ≤ hi := Int32.not_le.mpr h5
        simp [h3, h4, h5, this]
      · have h6 : plain ≤ hi := Int32.not_lt.mp h5
        simp [h3, h4, h5, h6]
