/-! the reference: GOOD, MARK, SUM -/
theorem mTk_va (cd ci va vb : Nat → Int32) (to : Nat) (hv : ∀ i, i < 9 → va i = vb i) : ∀ (f c top : Nat) (pi : Nat → Int32), mWf cd ci to f c top → mTk cd ci va to f c top pi = mTk cd ci vb to f c top pi := by
  intro f
  induction f with
  | zero => intro c top pi _; rfl
  | succ f ih =>
    intro c top pi h
    by_cases hp : to ≤ c
    · simp only [mTk, hp, if_true]
    · rcases h with h2 | ⟨s0, hw⟩ | ⟨s1, ⟨i, hi, hai⟩, hw⟩ | ⟨hs, ht, hw⟩
      · omega
      · simp only [mTk, hp, s0, if_true, if_false]; exact ih _ _ _ hw
      · have hicl : (nI i).toNatClampNeg = i := nI_clamp (by omega)
        simp (decide := true) only [mTk, hp, s1, if_true, if_false, hai, hicl, hv i hi]; exact ih _ _ _ hw
      · rcases hs with s | s | s | s
        · simp (decide := true) only [mTk, hp, s, if_true, if_false]; exact ih _ _ _ hw
        · simp (decide := true) only [mTk, hp, s, if_true, if_false]; exact ih _ _ _ hw
        · simp (decide := true) only [mTk, hp, s, if_true, if_false]; exact ih _ _ _ hw
        · simp (decide := true) only [mTk, hp, s, if_true, if_false, ih _ _ _ hw]
theorem mT_va {im : gm_I} {va vb : Nat → Int32} {fr to : Nat} (hv : ∀ i, i < 9 → va i = vb i) (h : mSeg im fr to) : mT im va fr to = mT im vb fr to := by
  unfold mT
  rw [mTk_va (im 111) (im 112) va vb to hv _ _ _ _ h.2.2.2]
theorem mBr_va {im : gm_I} {va vb : Nat → Int32} (hv : ∀ i, i < 9 → va i = vb i) : ∀ (f b : Nat), (∀ c, b ≤ c → c < b + f → mBrOk im c) → mBr im va f b = mBr im vb f b := by
  intro f
  induction f with
  | zero => intro b _; rfl
  | succ f ih =>
    intro b h
    obtain ⟨p0, p1, p2, p3, e2, e3, s3, hk⟩ := h b (Nat.le_refl _) (by omega)
    have c2 : (nI p2).toNatClampNeg = p2 := nI_clamp (by have := s3.1; have := s3.2.1; omega)
    have c3 : (nI p3).toNatClampNeg = p3 := nI_clamp (by have := s3.2.1; omega)
    have ih' := ih (b + 1) (fun c h1 h2 => h c (by omega) (by omega))
    rcases hk with h0 | ⟨h1, e0, e1, s1, s2⟩
    · simp only [mBr, h0, if_true, e2, e3, c2, c3, mT_va hv s3]
    · have c0 : (nI p0).toNatClampNeg = p0 := nI_clamp (by have := s1.1; have := s1.2.1; omega)
      have c1 : (nI p1).toNatClampNeg = p1 := nI_clamp (by have := s1.2.1; omega)
      simp (decide := true) only [mBr, h1, if_false, e0, e1, e2, e3, c0, c1, c2, c3, mT_va hv s3, mT_va hv s1, mT_va hv s2, ih']
theorem mLaw_va {im : gm_I} {ix : Nat} {plain : Int32} {va vb : Nat → Int32} (hv : ∀ i, i < 9 → va i = vb i) (hok : mLawOk im ix) : mLaw im ix plain va = mLaw im ix plain vb := by
  obtain ⟨b0, b1, h1, h2, h3, h4, h5⟩ := hok
  have e0 : (nI b0).toNatClampNeg = b0 := nI_clamp (by omega)
  have e1 : (nI b1).toNatClampNeg = b1 := nI_clamp (by omega)
  unfold mLaw mLw
  rw [h3, h4, e0, e1, mBr_va hv _ _ (fun c h6 h7 => h5 c h6 (by omega))]
theorem mLaw_off {im im' : gm_I} (h : mOff im im') (ix : Nat) (plain : Int32) (va : Nat → Int32) : mLaw im' ix plain va = mLaw im ix plain va := by
  unfold mLaw
  rw [mLw_off h, h.1 104 (by decide) (by decide) (by decide), h.1 105 (by decide) (by decide) (by decide)]
theorem M_asks (l : Nat) (plain lo hi : Int32) (im : gm_I) (lm : gm_L) (hl : im 84 18 = nI l) (hl2 : l < 2) :
    (mLawOk im (3 * l + 0) → ∃ im', gm_den 212 0 [.ref 84, .int 0, .int plain, .int lo, .int hi, .null, .null] [] 128 gm_RF im lm = some (some (.int (mClamp lo hi (mLaw im (3 * l + 0) plain (im 114)))), 128, gm_RF, im', lm) ∧ mOff im im') ∧
    (mLawOk im (3 * l + 1) → ∃ im', gm_den 212 0 [.ref 84, .int 1, .int plain, .int lo, .int hi, .null, .null] [] 128 gm_RF im lm = some (some (.int (mClamp lo hi (mLaw im (3 * l + 1) plain (im 114)))), 128, gm_RF, im', lm) ∧ mOff im im') ∧
    (mLawOk im (3 * l + 2) → ∃ im', gm_den 212 0 [.ref 84, .int 2, .int plain, .int lo, .int hi, .null, .null] [] 128 gm_RF im lm = some (some (.int (mClamp lo hi (mLaw im (3 * l + 2) plain (im 114)))), 128, gm_RF, im', lm) ∧ mOff im im') :=
  ⟨fun h => M_asksN 0 l plain lo hi im lm (by decide) hl hl2 h, fun h => M_asksN 1 l plain lo hi im lm (by decide) hl hl2 h, fun h => M_asksN 2 l plain lo hi im lm (by decide) hl hl2 h⟩
theorem mLk_off (im : gm_I) (l a : Nat) (manner slip : Int32) : mOff im (mLk im l a manner slip) := by
  refine ⟨fun q h1 _ _ => ?_, fun k _ => ?_⟩
  · funext j; simp only [mLk, gm_up, h1, if_false]
  · simp [mLk, gm_up]
theorem mLk_va (im : gm_I) (l a : Nat) (manner slip : Int32) (i : Nat) (hi : i < 9) : mLk im l a manner slip 114 i = sV (im 96 (7 * l + a)) manner slip (im 117 (35 + a)) (im 117 75) 0 0 (nI a) (if im 117 (7 + a) < 0 then 0 else 1) i := by
  have : i = 0 ∨ i = 1 ∨ i = 2 ∨ i = 3 ∨ i = 4 ∨ i = 5 ∨ i = 6 ∨ i = 7 ∨ i = 8 := by omega
  rcases this with rfl | rfl | rfl | rfl | rfl | rfl | rfl | rfl | rfl <;> simp [mLk, gm_up, sV]
/-- all three laws of the side in use are in order -/
def mLaws (im : gm_I) (l : Nat) : Prop := mLawOk im (3 * l + 0) ∧ mLawOk im (3 * l + 1) ∧ mLawOk im (3 * l + 2)
theorem mLaws_off {im im' : gm_I} (h : mOff im im') {l : Nat} (k : mLaws im l) : mLaws im' l := ⟨mLawOk_off h k.1, mLawOk_off h k.2.1, mLawOk_off h k.2.2⟩
def mGood (im : gm_I) (l a : Nat) (manner slip : Int32) : Int32 := mClamp 0 99 (mLaw im (3 * l + 0) (im 96 (7 * l + a)) (sV (im 96 (7 * l + a)) manner slip (im 117 (35 + a)) (im 117 75) 0 0 (nI a) (if im 117 (7 + a) < 0 then 0 else 1)))
theorem M_goodOf (a l : Nat) (manner slip : Int32) (im : gm_I) (lm : gm_L) (ha : a < 7) (hl : im 84 18 = nI l) (hl2 : l < 2) (hok : mLaws im l) : ∃ im', gm_den 214 0 [.ref 84, .int (nI a), .int manner, .int slip] [] 128 gm_RF im lm = some (some (.int (mGood im l a manner slip)), 128, gm_RF, im', lm) ∧ mOff im im' := by
  have ho := mLk_off im l a manner slip
  have hl' : mLk im l a manner slip 84 18 = nI l := by rw [ho.2 18 (by decide)]; exact hl
  have h96 : mLk im l a manner slip 96 = im 96 := ho.1 96 (by decide) (by decide) (by decide)
  obtain ⟨im', h1, h2⟩ := (M_asks l (im 96 (7 * l + a)) 0 99 (mLk im l a manner slip) lm hl' hl2).1 (mLaws_off ho hok).1
  rw [mLaw_off ho, mLaw_va (mLk_va im l a manner slip) hok.1] at h1
  refine ⟨im', ?_, ho.tr h2⟩
  simp only [QX12_goodOf, M_looks a l manner slip im lm ha hl hl2, gm_cont_v, hl', ix7 l a hl2 ha, if_true, h96, h1, gm_cont_i, mGood]
/-- GOOD of what he is to speak -/
def mGoodNow (im : gm_I) (l a : Nat) (slip : Int32) : Int32 := if im 117 (49 + a) < 0 then mGood im l a (im 117 (28 + a)) slip else im 117 (56 + a)
theorem M_goodNow (a l : Nat) (slip : Int32) (im : gm_I) (lm : gm_L) (ha : a < 7) (hl : im 84 18 = nI l) (hl2 : l < 2) (hok : mLaws im l) : ∃ im', gm_den 215 0 [.ref 84, .int (nI a), .int slip] [] 128 gm_RF im lm = some (some (.int (mGoodNow im l a slip)), 128, gm_RF, im', lm) ∧ mOff im im' := by
  by_cases h : im 117 (49 + a) < 0
  · obtain ⟨im', h1, h2⟩ := M_goodOf a l (im 117 (28 + a)) slip im lm ha hl hl2 hok
    refine ⟨im', ?_, h2⟩
    simp only [QX12_goodNow, ixr7 a ha, if_true, h, h1, gm_cont_i, mGoodNow]
  · refine ⟨im, ?_, mOff.rf im⟩
    simp only [QX12_goodNow, ixr7 a ha, if_true, if_false, h, mGoodNow]
def mMark (im : gm_I) (l j a : Nat) (manner slip good : Int32) : Int32 := if manner = 1 then 4 else sJoke manner (mClamp 1 9 (mLaw im (3 * l + 1) good (sV (im 96 (7 * l + a)) manner slip (im 117 (35 + a)) (im 117 75) good (if im 102 (8 * l + j) = mPl (im 117 (7 + a)) (im 117 a) (im 93 l) then 1 else 0) (nI j) (if im 117 (7 + a) < 0 then 0 else 1))))
theorem ix8 (l j : Nat) (hl : l < 2) (hj : j < 8) : gm_in (8 * nI l + nI j) 16 = true ∧ (8 * nI l + nI j).toNatClampNeg = 8 * l + j :=
  ix_nat (8 * l + j) (by rw [show (8 : Int32) = nI 8 from rfl, nI_mul, nI_add]) (by omega) (by decide)
theorem i114 : (gm_in 5 9 = true ∧ (5 : Int32).toNatClampNeg = 5) ∧ (gm_in 6 9 = true ∧ (6 : Int32).toNatClampNeg = 6) ∧ (gm_in 7 9 = true ∧ (7 : Int32).toNatClampNeg = 7) ∧ (gm_in 3 9 = true ∧ (3 : Int32).toNatClampNeg = 3) := by decide
theorem M_markBy (j a l : Nat) (manner slip good : Int32) (im : gm_I) (lm : gm_L) (hj : j < 8) (ha : a < 7) (hl : im 84 18 = nI l) (hl2 : l < 2) (hs : ¬ im 93 l = 0) (hok : mLaws im l) : ∃ im', gm_den 216 0 [.ref 84, .int (nI j), .int (nI a), .int manner, .int slip, .int good, .null] [] 128 gm_RF im lm = some (some (.int (mMark im l j a manner slip good)), 128, gm_RF, im', lm) ∧ mOff im im' := by
  by_cases hm : manner = 1
  · refine ⟨im, ?_, mOff.rf im⟩
    simp only [QX12_markBy, hm, if_true, if_false, not_true_eq_false, mMark]
  · -- the memory when the law is asked
    have ho1 := mLk_off im l a manner slip
    generalize hln : (if im 102 (8 * l + j) = mPl (im 117 (7 + a)) (im 117 a) (im 93 l) then (1 : Int32) else 0) = ln
    have ho : mOff im (gm_up (gm_up (gm_up (mLk im l a manner slip) 114 5 good) 114 6 ln) 114 7 (nI j)) := by
      refine ⟨fun q h1 h2 h3 => ?_, fun k hk => ?_⟩
      · rw [gu_row h1, gu_row h1, gu_row h1]; exact ho1.1 q h1 h2 h3
      · rw [gu_ne (by decide), gu_ne (by decide), gu_ne (by decide)]; exact ho1.2 k hk
    have hva : ∀ i, i < 9 → gm_up (gm_up (gm_up (mLk im l a manner slip) 114 5 good) 114 6 ln) 114 7 (nI j) 114 i = sV (im 96 (7 * l + a)) manner slip (im 117 (35 + a)) (im 117 75) good ln (nI j) (if im 117 (7 + a) < 0 then 0 else 1) i := by
      intro i hi
      have : i = 0 ∨ i = 1 ∨ i = 2 ∨ i = 3 ∨ i = 4 ∨ i = 5 ∨ i = 6 ∨ i = 7 ∨ i = 8 := by omega
      rcases this with rfl | rfl | rfl | rfl | rfl | rfl | rfl | rfl | rfl <;> simp [mLk, gm_up, sV]
    have hl' : gm_up (gm_up (gm_up (mLk im l a manner slip) 114 5 good) 114 6 ln) 114 7 (nI j) 84 18 = nI l := by rw [ho.2 18 (by decide)]; exact hl
    obtain ⟨im', h1, h2⟩ := (M_asks l good 1 9 _ lm hl' hl2).2.1 (mLaws_off ho hok).2.1
    rw [mLaw_off ho, mLaw_va hva hok.2.1] at h1
    refine ⟨im', ?_, ho.tr h2⟩
    have hlk : mLk im l a manner slip 84 18 = nI l := by rw [ho1.2 18 (by decide)]; exact hl
    have hlk2 : gm_up (mLk im l a manner slip) 114 5 good 84 18 = nI l := by rw [gu_ne (by decide)]; exact hlk
    have r117 : gm_up (mLk im l a manner slip) 114 5 good 117 = im 117 := by rw [gu_row (by decide)]; exact ho1.1 117 (by decide) (by decide) (by decide)
    have r93 : gm_up (mLk im l a manner slip) 114 5 good 93 = im 93 := by rw [gu_row (by decide)]; exact ho1.1 93 (by decide) (by decide) (by decide)
    have r102 : gm_up (mLk im l a manner slip) 114 5 good 102 = im 102 := by rw [gu_row (by decide)]; exact ho1.1 102 (by decide) (by decide) (by decide)
    have hpl := M_pleadsFor a l (gm_up (mLk im l a manner slip) 114 5 good) lm ha hlk2 hl2 (by rw [r93]; exact hs)
    rw [r117, r93] at hpl
    simp only [mMark, hm, if_false, hln]
    generalize hw : mClamp 1 9 (mLaw im (3 * l + 1) good (sV (im 96 (7 * l + a)) manner slip (im 117 (35 + a)) (im 117 75) good ln (nI j) (if im 117 (7 + a) < 0 then 0 else 1))) = w at h1 ⊢
    have fin : gm_den 216 77 [.ref 84, .int (nI j), .int (nI a), .int manner, .int slip, .int good, .int w] [] 128 gm_RF im' lm = some (some (.int (sJoke manner w)), 128, gm_RF, im', lm) := by
      unfold sJoke
      by_cases h3 : manner = 2
      · by_cases h4 : w - w / 2 * 2 = 1
        · by_cases h5 : w = 1
          · simp (decide := true) only [QX12_markBy, h3, h4, h5, if_true, if_false]
          · simp (decide := true) only [QX12_markBy, h3, h4, h5, if_true, if_false]
        · simp (decide := true) only [QX12_markBy, h3, h4, if_true, if_false]
      · simp (decide := true) only [QX12_markBy, h3, if_true, if_false]
    rw [← fin]
    by_cases hle : im 102 (8 * l + j) = mPl (im 117 (7 + a)) (im 117 a) (im 93 l)
    · rw [if_pos hle] at hln
      subst hln
      simp (decide := true) only [QX12_markBy, hm, M_looks a l manner slip im lm ha hl hl2, gm_cont_v, gm_cont_i, gm_cat_i, i114, hlk, hlk2, ix8 l j hl2 hj, r102, hpl, hle, h1, if_true, if_false, not_false_eq_true]
    · rw [if_neg hle] at hln
      subst hln
      simp (decide := true) only [QX12_markBy, hm, M_looks a l manner slip im lm ha hl hl2, gm_cont_v, gm_cont_i, gm_cat_i, i114, hlk, hlk2, ix8 l j hl2 hj, r102, hpl, hle, h1, if_true, if_false, not_false_eq_true]
