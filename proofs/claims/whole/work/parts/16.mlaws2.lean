/-! the reference: laws -/
/-- the same but for scratch: variables, pile, whether broken -/
def mOff (im im' : gm_I) : Prop := (∀ q, q ≠ 114 → q ≠ 115 → q ≠ 84 → im' q = im q) ∧ ∀ k, k ≠ 48 → im' 84 k = im 84 k
theorem mOff.rf (im : gm_I) : mOff im im := ⟨fun _ _ _ _ => rfl, fun _ _ => rfl⟩
theorem mOff.tr {a b c : gm_I} (h : mOff a b) (k : mOff b c) : mOff a c := ⟨fun q h1 h2 h3 => (k.1 q h1 h2 h3).trans (h.1 q h1 h2 h3), fun q h1 => (k.2 q h1).trans (h.2 q h1)⟩
/-- a part of the codes that is one term -/
def mSeg (im : gm_I) (fr to : Nat) : Prop := fr < to ∧ to ≤ 840 ∧ to - fr ≤ 400 ∧ mWf (im 111) (im 112) to (to - fr) fr 0
/-- its value: broken or not, the number -/
def mT (im : gm_I) (va : Nat → Int32) (fr to : Nat) : Bool × Int32 := ((mTk (im 111) (im 112) va to (to - fr) fr 0 (fun _ => 0)).1, (mTk (im 111) (im 112) va to (to - fr) fr 0 (fun _ => 0)).2.1)
theorem M_termOf (im : gm_I) (lm : gm_L) (fr to : Nat) (h : mSeg im fr to) : ∃ im', gm_den 199 0 [.ref 84, .int (nI fr), .int (nI to), .null, .null, .null, .null, .null] [] 128 gm_RF im lm = some (some (.int (mT im (im 114) fr to).2), 128, gm_RF, im', lm) ∧ mOff im im' ∧ im' 114 = im 114 ∧ im' 84 48 = if (mT im (im 114) fr to).1 = true then 1 else im 84 48 := by
  obtain ⟨h1, h2, h3, h4⟩ := h
  have hl := M_term_loop im lm (nI fr) to h2 (to - fr) fr 0 (im 115) .null .null .null (by omega) h4 (by omega) (by omega) rfl rfl rfl
  rw [mPi_self] at hl
  have hst := mTk_stack (im 111) (im 112) (im 114) to (to - fr) fr 0 (im 115) (fun _ => 0) (by omega) (fun j hj => absurd hj (Nat.not_lt_zero _)) h4 (Or.inr h1)
  refine ⟨mTIm im (mTk (im 111) (im 112) (im 114) to (to - fr) fr 0 (im 115)), ?_, ?_, ?_, ?_⟩
  · simp only [QX12_termOf, gm_cat_i, gm_cat_n, gm_cat_r]
    rw [show (0 : Int32) = nI 0 from rfl, hl, hst.2]
    rfl
  · unfold mTIm
    split
    · refine ⟨fun q h1 h2 h3 => ?_, fun k hk => ?_⟩
      · rw [gu_row h3, mPi_ne _ _ h2]
      · rw [gu_nk hk]; rfl
    · exact ⟨fun q h1 h2 h3 => mPi_ne _ _ h2, fun k hk => rfl⟩
  · unfold mTIm
    split
    · rw [gu_row (by decide)]; rfl
    · rfl
  · unfold mTIm mT
    rw [hst.1]
    split
    · rw [gu_eq]
    · rfl
theorem mT_off {im im' : gm_I} (h : mOff im im') (va : Nat → Int32) (fr to : Nat) : mT im' va fr to = mT im va fr to := by
  unfold mT
  rw [h.1 111 (by decide) (by decide) (by decide), h.1 112 (by decide) (by decide) (by decide)]
theorem mSeg_off {im im' : gm_I} (h : mOff im im') {fr to : Nat} (k : mSeg im fr to) : mSeg im' fr to := by
  unfold mSeg at *
  rw [h.1 111 (by decide) (by decide) (by decide), h.1 112 (by decide) (by decide) (by decide)]
  exact k
/-- a branch of a law in order -/
def mBrOk (im : gm_I) (b : Nat) : Prop := ∃ p0 p1 p2 p3, im 109 b = nI p2 ∧ im 110 b = nI p3 ∧ mSeg im p2 p3 ∧ (im 106 b = 0 ∨ (im 106 b = 1 ∧ im 107 b = nI p0 ∧ im 108 b = nI p1 ∧ mSeg im p0 p1 ∧ mSeg im p1 p2))
def mBr (im : gm_I) (va : Nat → Int32) : Nat → Nat → Int32
  | 0, _ => 0
  | f + 1, b =>
    if im 106 b = 0 then (if (mT im va (im 109 b).toNatClampNeg (im 110 b).toNatClampNeg).1 = true then 0 else (mT im va (im 109 b).toNatClampNeg (im 110 b).toNatClampNeg).2)
    else if (mT im va (im 107 b).toNatClampNeg (im 108 b).toNatClampNeg).1 = true ∨ (mT im va (im 108 b).toNatClampNeg (im 109 b).toNatClampNeg).1 = true then 0
    else if (mT im va (im 107 b).toNatClampNeg (im 108 b).toNatClampNeg).2 < (mT im va (im 108 b).toNatClampNeg (im 109 b).toNatClampNeg).2 then (if (mT im va (im 109 b).toNatClampNeg (im 110 b).toNatClampNeg).1 = true then 0 else (mT im va (im 109 b).toNatClampNeg (im 110 b).toNatClampNeg).2)
    else mBr im va f (b + 1)
theorem M_law_loop (im : gm_I) (lm : gm_L) (ix b1 : Nat) (hix : ix < 6) (hb1 : im 105 ix = nI b1) (h260 : b1 ≤ 260) : ∀ (f b : Nat) (im1 : gm_I) (x3 x4 : Value), b + f = b1 → (∀ c, b ≤ c → c < b1 → mBrOk im c) → mOff im im1 → im1 114 = im 114 → im1 84 48 = 0 → x3.category = 1 → x4.category = 1 →
    ∃ im', gm_den 213 12 [.ref 84, .int (nI ix), .int (nI b), x3, x4] [] 128 gm_RF im1 lm = some (some (.int (mBr im (im 114) f b)), 128, gm_RF, im', lm) ∧ mOff im im' := by
  have hxin : gm_in (nI ix) 6 = true := gm_in_nI hix (by decide)
  have hxcl : (nI ix).toNatClampNeg = ix := nI_clamp (by omega)
  intro f
  induction f with
  | zero =>
    intro b im1 x3 x4 hb hok ho h114 h48 c3 c4
    have : b = b1 := by omega
    subst this
    have h105 : im1 105 ix = nI b := by rw [ho.1 105 (by decide) (by decide) (by decide)]; exact hb1
    refine ⟨im1, ?_, ho⟩
    rw [LX12_lawTells_12]
    simp only [QX12_lawTells, hxin, hxcl, h105, if_true, nI_le (Nat.le_refl b) (show b < 2 ^ 31 by omega), mBr]
  | succ f ih =>
    intro b im1 x3 x4 hb hok ho h114 h48 c3 c4
    have h105 : im1 105 ix = nI b1 := by rw [ho.1 105 (by decide) (by decide) (by decide)]; exact hb1
    have hlt : ¬ nI b1 ≤ nI b := nI_ge (by omega) (by omega)
    have hbin : gm_in (nI b) 260 = true := gm_in_nI (by omega) (by decide)
    have hbcl : (nI b).toNatClampNeg = b := nI_clamp (by omega)
    obtain ⟨p0, p1, p2, p3, e2, e3, s3, hk⟩ := hok b (by omega) (by omega)
    have c2 : (nI p2).toNatClampNeg = p2 := nI_clamp (by have := s3.1; have := s3.2.1; omega)
    have c3' : (nI p3).toNatClampNeg = p3 := nI_clamp (by have := s3.2.1; omega)
    have r : ∀ {imx : gm_I}, mOff im imx → imx 109 b = nI p2 ∧ imx 110 b = nI p3 ∧ imx 106 b = im 106 b ∧ imx 107 b = im 107 b ∧ imx 108 b = im 108 b := fun {imx} hx => by
      rw [hx.1 109 (by decide) (by decide) (by decide), hx.1 110 (by decide) (by decide) (by decide), hx.1 106 (by decide) (by decide) (by decide), hx.1 107 (by decide) (by decide) (by decide), hx.1 108 (by decide) (by decide) (by decide)]
      exact ⟨e2, e3, rfl, rfl, rfl⟩
    obtain ⟨q1, q2, q3, q4, q5⟩ := r ho
    rw [LX12_lawTells_12]
    rcases hk with h0 | ⟨h1, e0, e1, s1, s2⟩
    · obtain ⟨im', t1, t2, t3, t4⟩ := M_termOf im1 lm p2 p3 (mSeg_off ho s3)
      rw [h114, mT_off ho] at t1 t4
      rw [h0] at q3
      refine ⟨im', ?_, ho.tr t2⟩
      by_cases hbr : (mT im (im 114) p2 p3).1 = true
      · rw [if_pos hbr] at t4
        simp (decide := true) only [QX12_lawTells, hxin, hxcl, h105, hlt, hbin, hbcl, q1, q2, q3, if_true, if_false, t1, gm_cont_i, gm_cat_i, t4, hbr, mBr, h0, e2, e3, c2, c3']
      · rw [if_neg hbr, h48] at t4
        simp (decide := true) only [QX12_lawTells, hxin, hxcl, h105, hlt, hbin, hbcl, q1, q2, q3, if_true, if_false, t1, gm_cont_i, gm_cat_i, t4, hbr, mBr, h0, e2, e3, c2, c3']
    · have c0 : (nI p0).toNatClampNeg = p0 := nI_clamp (by have := s1.1; have := s1.2.1; omega)
      have c1 : (nI p1).toNatClampNeg = p1 := nI_clamp (by have := s1.2.1; omega)
      rw [h1] at q3
      rw [e0] at q4
      rw [e1] at q5
      obtain ⟨im2, t1, t2, t3, t4⟩ := M_termOf im1 lm p0 p1 (mSeg_off ho s1)
      rw [h114, mT_off ho] at t1 t4
      rw [h114] at t3
      have ho2 := ho.tr t2
      obtain ⟨q1', q2', q3', q4', q5'⟩ := r ho2
      rw [h1] at q3'
      rw [e0] at q4'
      rw [e1] at q5'
      obtain ⟨im3, u1, u2, u3, u4⟩ := M_termOf im2 lm p1 p2 (mSeg_off ho2 s2)
      rw [t3, mT_off ho2] at u1 u4
      rw [t3] at u3
      rw [t4, h48] at u4
      have ho3 := ho2.tr u2
      obtain ⟨q1'', q2'', q3'', q4'', q5''⟩ := r ho3
      by_cases hbr : (mT im (im 114) p0 p1).1 = true ∨ (mT im (im 114) p1 p2).1 = true
      · have hfl : im3 84 48 = 1 := by
          rw [u4]
          rcases hbr with h | h
          · rw [if_pos h]; split <;> rfl
          · rw [if_pos h]
        refine ⟨im3, ?_, ho3⟩
        simp (decide := true) only [QX12_lawTells, hxin, hxcl, h105, hlt, hbin, hbcl, q1, q2, q3, q4, q5, q1', q5', if_true, if_false, t1, u1, gm_cont_i, gm_cat_i, hfl, mBr, h1, e0, e1, e2, e3, c0, c1, c2, c3', hbr]
      · have hfl : im3 84 48 = 0 := by
          rw [u4, if_neg (fun h => hbr (Or.inr h)), if_neg (fun h => hbr (Or.inl h))]
        by_cases hlt2 : (mT im (im 114) p0 p1).2 < (mT im (im 114) p1 p2).2
        · obtain ⟨im', w1, w2, w3, w4⟩ := M_termOf im3 lm p2 p3 (mSeg_off ho3 s3)
          rw [u3, mT_off ho3] at w1 w4
          refine ⟨im', ?_, ho3.tr w2⟩
          by_cases hb3 : (mT im (im 114) p2 p3).1 = true
          · rw [if_pos hb3] at w4
            simp (decide := true) only [QX12_lawTells, hxin, hxcl, h105, hlt, hbin, hbcl, q1, q2, q3, q4, q5, q1', q5', q1'', q2'', if_true, if_false, t1, u1, w1, gm_cont_i, gm_cat_i, hfl, mBr, h1, e0, e1, e2, e3, c0, c1, c2, c3', hbr, hlt2, w4, hb3]
          · rw [if_neg hb3, hfl] at w4
            simp (decide := true) only [QX12_lawTells, hxin, hxcl, h105, hlt, hbin, hbcl, q1, q2, q3, q4, q5, q1', q5', q1'', q2'', if_true, if_false, t1, u1, w1, gm_cont_i, gm_cat_i, hfl, mBr, h1, e0, e1, e2, e3, c0, c1, c2, c3', hbr, hlt2, w4, hb3]
        · obtain ⟨im', w1, w2⟩ := ih (b + 1) im3 (.int (mT im (im 114) p0 p1).2) (.int (mT im (im 114) p1 p2).2) (by omega) (fun c h8 h9 => hok c (by omega) h9) ho3 u3 hfl rfl rfl
          refine ⟨im', ?_, w2⟩
          simp (decide := true) only [QX12_lawTells, hxin, hxcl, h105, hlt, hbin, hbcl, q1, q2, q3, q4, q5, q1', q5', q1'', q2'', if_true, if_false, t1, u1, gm_cont_i, gm_cat_i, hfl, mBr, h1, e0, e1, e2, e3, c0, c1, c2, c3', hbr, hlt2, nI_a1]
          exact w1
/-- a law of the reference: its value by the variables (ix: 3 * live + law) -/
def mLw (im : gm_I) (ix : Nat) (va : Nat → Int32) : Int32 := mBr im va ((im 105 ix).toNatClampNeg - (im 104 ix).toNatClampNeg) (im 104 ix).toNatClampNeg
/-- a law in order -/
def mLawOk (im : gm_I) (ix : Nat) : Prop := ∃ b0 b1, b0 ≤ b1 ∧ b1 ≤ 260 ∧ im 104 ix = nI b0 ∧ im 105 ix = nI b1 ∧ ∀ c, b0 ≤ c → c < b1 → mBrOk im c
theorem mBrOk_off {im im' : gm_I} (h : mOff im im') {b : Nat} (k : mBrOk im b) : mBrOk im' b := by
  obtain ⟨p0, p1, p2, p3, e2, e3, s3, hk⟩ := k
  refine ⟨p0, p1, p2, p3, ?_, ?_, mSeg_off h s3, ?_⟩
  · rw [h.1 109 (by decide) (by decide) (by decide)]; exact e2
  · rw [h.1 110 (by decide) (by decide) (by decide)]; exact e3
  · rw [h.1 106 (by decide) (by decide) (by decide), h.1 107 (by decide) (by decide) (by decide), h.1 108 (by decide) (by decide) (by decide)]
    rcases hk with h0 | ⟨h1, e0, e1, s1, s2⟩
    · exact Or.inl h0
    · exact Or.inr ⟨h1, e0, e1, mSeg_off h s1, mSeg_off h s2⟩
theorem mBr_off {im im' : gm_I} (h : mOff im im') (va : Nat → Int32) : ∀ f b, mBr im' va f b = mBr im va f b := by
  intro f
  induction f with
  | zero => intro b; rfl
  | succ f ih =>
    intro b
    simp only [mBr, ih, mT_off h, h.1 109 (by decide) (by decide) (by decide), h.1 110 (by decide) (by decide) (by decide), h.1 106 (by decide) (by decide) (by decide), h.1 107 (by decide) (by decide) (by decide), h.1 108 (by decide) (by decide) (by decide)]
theorem mLw_off {im im' : gm_I} (h : mOff im im') (ix : Nat) (va : Nat → Int32) : mLw im' ix va = mLw im ix va := by
  unfold mLw
  rw [mBr_off h, h.1 104 (by decide) (by decide) (by decide), h.1 105 (by decide) (by decide) (by decide)]
theorem mLawOk_off {im im' : gm_I} (h : mOff im im') {ix : Nat} (k : mLawOk im ix) : mLawOk im' ix := by
  obtain ⟨b0, b1, h1, h2, h3, h4, h5⟩ := k
  exact ⟨b0, b1, h1, h2, by rw [h.1 104 (by decide) (by decide) (by decide)]; exact h3, by rw [h.1 105 (by decide) (by decide) (by decide)]; exact h4, fun c h6 h7 => mBrOk_off h (h5 c h6 h7)⟩
theorem M_lawTells (im : gm_I) (lm : gm_L) (ix : Nat) (hix : ix < 6) (hok : mLawOk im ix) : ∃ im', gm_den 213 0 [.ref 84, .int (nI ix), .null, .null, .null] [] 128 gm_RF im lm = some (some (.int (mLw im ix (im 114))), 128, gm_RF, im', lm) ∧ mOff im im' := by
  obtain ⟨b0, b1, h1, h2, h3, h4, h5⟩ := hok
  have hxin : gm_in (nI ix) 6 = true := gm_in_nI hix (by decide)
  have hxcl : (nI ix).toNatClampNeg = ix := nI_clamp (by omega)
  have ho : mOff im (gm_up im 84 48 0) := ⟨fun q _ _ h => gu_row h, fun k hk => gu_nk hk⟩
  obtain ⟨im', w1, w2⟩ := M_law_loop im lm ix b1 hix h4 h2 (b1 - b0) b0 (gm_up im 84 48 0) .null .null (by omega) h5 ho (gu_row (by decide)) gu_eq rfl rfl
  refine ⟨im', ?_, w2⟩
  have h104 : gm_up im 84 48 0 104 ix = nI b0 := by rw [gu_ne (by decide)]; exact h3
  simp (decide := true) only [QX12_lawTells, hxin, hxcl, if_true, gm_cat_i, h104]
  rw [w1]
  unfold mLw
  rw [h3, h4, nI_clamp (show b0 < 2 ^ 31 by omega), nI_clamp (show b1 < 2 ^ 31 by omega)]
