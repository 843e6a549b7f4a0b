/-! the reference by the base: SUM, speakers -/
section
variable {B im : gm_I} {l nm nk nj ns : Nat}
theorem iR_l (h : iRoll B l nm nk nj ns) : l < 2 := h.1.1
theorem iR_nm (h : iRoll B l nm nk nj ns) : nm ≤ 7 := h.1.2.1
theorem iR_nk (h : iRoll B l nm nk nj ns) : nk ≤ 5 := h.1.2.2.1
theorem iR_nj (h : iRoll B l nm nk nj ns) : nj ≤ 8 := h.1.2.2.2.1
theorem iR_ns (h : iRoll B l nm nk nj ns) : ns = 2 ∨ ns = 3 := h.1.2.2.2.2
theorem iR_18 (h : iRoll B l nm nk nj ns) (ho : Off B im) : im 84 18 = nI l := by rw [ho.2 18 rfl]; exact h.2.1.1
theorem iR_110 (h : iRoll B l nm nk nj ns) (ho : Off B im) : im 11 0 = nI ns := by rw [ho.1 11 rfl]; exact h.2.1.2.1
theorem iR_112 (h : iRoll B l nm nk nj ns) (ho : Off B im) : im 11 2 = nI nm := by rw [ho.1 11 rfl]; exact h.2.1.2.2.1
theorem iR_113 (h : iRoll B l nm nk nj ns) (ho : Off B im) : im 11 3 = nI nk := by rw [ho.1 11 rfl]; exact h.2.1.2.2.2.1
theorem iR_114 (h : iRoll B l nm nk nj ns) (ho : Off B im) : im 11 4 = nI nj := by rw [ho.1 11 rfl]; exact h.2.1.2.2.2.2.1
theorem iR_sd (h : iRoll B l nm nk nj ns) : ∃ sd, sd ≤ 9999 ∧ B 11 1 = nI sd := h.2.1.2.2.2.2.2
theorem iR_93 (h : iRoll B l nm nk nj ns) (ho : Off B im) : im 93 l = nI ns := by rw [ho.1 93 rfl]; exact h.2.2.1.1
theorem iR_94 (h : iRoll B l nm nk nj ns) (ho : Off B im) : im 94 l = nI nm := by rw [ho.1 94 rfl]; exact h.2.2.1.2.1
theorem iR_99 (h : iRoll B l nm nk nj ns) (ho : Off B im) : im 99 l = nI nk := by rw [ho.1 99 rfl]; exact h.2.2.1.2.2.1
theorem iR_101 (h : iRoll B l nm nk nj ns) (ho : Off B im) : im 101 l = nI nj := by rw [ho.1 101 rfl]; exact h.2.2.1.2.2.2.1
theorem iR_103 (h : iRoll B l nm nk nj ns) (ho : Off B im) : im 103 l = B 11 1 := by rw [ho.1 103 rfl]; exact h.2.2.1.2.2.2.2
theorem iR_man (h : iRoll B l nm nk nj ns) {a : Nat} (ha : a < nm) : B 95 (7 * l + a) = B 12 (4 * a + 0) ∧ B 96 (7 * l + a) = B 12 (4 * a + 1) ∧ B 97 (7 * l + a) = B 12 (4 * a + 2) ∧ B 98 (7 * l + a) = B 12 (4 * a + 3) ∧ (∃ q, q ≤ 10 ∧ B 12 (4 * a + 2) = nI q) ∧ (∃ q, q < ns ∧ B 12 (4 * a + 0) = nI q) := h.2.2.2.1 a ha
theorem iR_wo (h : iRoll B l nm nk nj ns) {k s : Nat} (hk : k < nk) (hs : s < 3) : B 100 (3 * (5 * l + k) + s) = B 13 (3 * k + s) ∧ ∃ q, q ≤ 99 ∧ B 13 (3 * k + s) = nI q := h.2.2.2.2.1 k s hk hs
theorem iR_le (h : iRoll B l nm nk nj ns) {j : Nat} (hj : j < nj) : B 102 (8 * l + j) = B 14 j := h.2.2.2.2.2.1 j hj
theorem iR_cl (h : iRoll B l nm nk nj ns) : cLawsOk B := h.2.2.2.2.2.2.1
theorem iR_ml (h : iRoll B l nm nk nj ns) : mLaws B l := h.2.2.2.2.2.2.2.1.1
theorem iR_mh (h : iRoll B l nm nk nj ns) : mHalf B l := h.2.2.2.2.2.2.2.1.2
theorem iR_lw (h : iRoll B l nm nk nj ns) {k : Nat} (hk : k < 3) (va : Nat → Int32) : cLaw B k va = mLawX B l k va := h.2.2.2.2.2.2.2.2 k va hk
theorem iR_ns0 (h : iRoll B l nm nk nj ns) (ho : Off B im) : ¬ im 93 l = 0 := by
  rw [iR_93 h ho]
  have := iR_ns h
  exact nI_ne0 (by omega) (by omega)
end
theorem clamp_eq {lo hi : Int32} (h : lo ≤ hi) (v : Int32) : mClamp lo hi v = sClamp lo hi v := by
  unfold mClamp sClamp
  simp only [Int32.lt_iff_toInt_lt, Int32.le_iff_toInt_le] at *
  by_cases h1 : v.toInt < lo.toInt
  · have h2 : v.toInt < hi.toInt := by omega
    have h3 : ¬ lo.toInt < v.toInt := by omega
    simp [h1, h2, h3]
  · by_cases h2 : hi.toInt < v.toInt
    · have h3 : ¬ v.toInt < hi.toInt := by omega
      by_cases h4 : lo.toInt < hi.toInt
      · simp [h1, h2, h3, h4]
      · have : lo = hi := by apply Int32.toInt_inj.mp; omega
        subst this; simp [h1, h2, h3]
    · by_cases h3 : v.toInt < hi.toInt
      · by_cases h4 : lo.toInt < v.toInt
        · simp [h1, h2, h3, h4]
        · have : lo = v := by apply Int32.toInt_inj.mp; omega
          subst this; simp [h2, h3]
      · have : v = hi := by apply Int32.toInt_inj.mp; omega
        subst this
        by_cases h4 : lo.toInt < v.toInt
        · simp [h1, h4]
        · have : lo = v := by apply Int32.toInt_inj.mp; omega
          subst this; simp
/-- a man's speech as the reference's row has it -/
def mV (im : gm_I) (l a : Nat) (ma sl : Int32) : Nat → Int32 := fun i => if i = 2 then nI a else if i = 3 then im 96 (7 * l + a) else if i = 4 then mPl (im 117 (7 + a)) (im 117 a) (im 93 l) else if i = 5 then ma else if i = 6 then sl else if i = 7 then im 117 (35 + a) else if i = 8 then im 117 75 else if i = 9 then (if im 117 (7 + a) < 0 then 0 else 1) else if i = 10 then (if im 117 (49 + a) < 0 then -1 else im 117 (56 + a)) else 0
theorem mV_off {im im' : gm_I} (h : mOff im im') (l a : Nat) (ma sl : Int32) : mV im' l a ma sl = mV im l a ma sl := by
  unfold mV
  rw [h.1 96 (by decide) (by decide) (by decide), h.1 117 (by decide) (by decide) (by decide), h.1 93 (by decide) (by decide) (by decide)]
theorem mMark_B {B im : gm_I} {l nm nk nj ns : Nat} (hR : iRoll B l nm nk nj ns) (ho : Off B im) {j : Nat} (hj : j < nj) (a : Nat) (ma sl good : Int32) : mMark im l j a ma sl good = vMk B (mV im l a ma sl) j good := by
  unfold mMark vMk
  rw [mLaw_B ho.law, clamp_eq (by decide), iR_lw hR (by decide), ho.1 102 rfl, iR_le hR hj]
  simp (decide := true) only [mV, if_true, if_false, mLawX]
  rfl
theorem mGood_B {B im : gm_I} {l nm nk nj ns : Nat} (hR : iRoll B l nm nk nj ns) (ho : Off B im) (a : Nat) (ma sl : Int32) : mGood im l a ma sl = sClamp 0 99 (cLaw B 0 (sV (im 96 (7 * l + a)) ma sl (im 117 (35 + a)) (im 117 75) 0 0 (nI a) (if im 117 (7 + a) < 0 then 0 else 1))) := by
  unfold mGood
  rw [mLaw_B ho.law, clamp_eq (by decide), iR_lw hR (by decide)]
  simp (decide := true) only [mLawX, if_true]
  rfl
/-- what is read again has a GOOD -/
def rOld (r : Nat → Int32) (nm : Nat) : Prop := ∀ a, a < nm → ¬ r (49 + a) < 0 → ¬ r (56 + a) = -1
theorem mGoodNow_B {B im : gm_I} {l nm nk nj ns : Nat} (hR : iRoll B l nm nk nj ns) (ho : Off B im) (hr : rOld (im 117) nm) {a : Nat} (ha : a < nm) (sl : Int32) : mGoodNow im l a sl = vGd B (mV im l a (im 117 (28 + a)) sl) := by
  unfold mGoodNow vGd
  rw [mGood_B hR ho]
  by_cases h : im 117 (49 + a) < 0
  · simp (decide := true) only [mV, if_true, if_false, h]
  · have := hr a ha h
    simp (decide := true) only [mV, if_true, if_false, h, this]
/-- bits of small numbers -/
theorem bt_all : ∀ a : Fin 8, ∀ M : Fin 256, (nI M.val >>> (nI a.val &&& 31)) &&& 1 = if M.val.testBit a.val then 1 else 0 := by decide +kernel
theorem bt {M a : Nat} (hM : M < 256) (ha : a < 8) : (nI M >>> (nI a &&& 31)) &&& 1 = if M.testBit a then 1 else 0 := bt_all ⟨a, ha⟩ ⟨M, hM⟩
theorem bs_all : ∀ a : Fin 8, ∀ M : Fin 256, M.val < 2 ^ a.val → nI M.val ||| (1 <<< (nI a.val &&& 31)) = nI (M.val + 2 ^ a.val) := by decide +kernel
theorem bs {M a : Nat} (ha : a < 8) (hM : M < 2 ^ a) : nI M ||| (1 <<< (nI a &&& 31)) = nI (M + 2 ^ a) := by
  have h8 : 2 ^ a ≤ 2 ^ 7 := Nat.pow_le_pow_right (by decide) (by omega)
  exact bs_all ⟨a, ha⟩ ⟨M, by omega⟩ hM
/-- a set by what is in it -/
def gM (f : Nat → Bool) : Nat → Nat
  | 0 => 0
  | a + 1 => if f a then gM f a + 2 ^ a else gM f a
theorem gM_lt (f : Nat → Bool) (n : Nat) : gM f n < 2 ^ n := by
  induction n with
  | zero => simp [gM]
  | succ n ih => simp only [gM, Nat.pow_succ]; split <;> omega
theorem gM_bit (f : Nat → Bool) (n a : Nat) : (gM f n).testBit a = (decide (a < n) && f a) := by
  induction n with
  | zero => simp [gM]
  | succ n ih =>
    have hlt := gM_lt f n
    simp only [gM]
    by_cases hf : f n
    · simp only [hf, if_true]
      rw [Nat.add_comm]
      by_cases h1 : a < n
      · rw [Nat.testBit_two_pow_add_gt h1, ih]
        simp [h1, Nat.lt_succ_of_lt h1]
      · by_cases h2 : a = n
        · subst h2
          rw [Nat.testBit_two_pow_add_eq, Nat.testBit_lt_two_pow hlt]
          simp [hf]
        · have hp : 2 ^ n + gM f n < 2 ^ a := by
            have : 2 ^ (n + 1) ≤ 2 ^ a := Nat.pow_le_pow_right (by decide) (by omega)
            rw [Nat.pow_succ] at this
            omega
          rw [Nat.testBit_lt_two_pow hp]
          simp [show ¬ a < n + 1 by omega]
    · simp only [hf]
      rw [if_neg (by simp), ih]
      by_cases h1 : a < n
      · simp [h1, Nat.lt_succ_of_lt h1]
      · by_cases h2 : a = n
        · subst h2; simp [hf]
        · simp [h1, show ¬ a < n + 1 by omega]
/-- marks of some jurors -/
def vTj (B : gm_I) (v : Nat → Int32) (good : Int32) (J : Nat) : Nat → Int32
  | 0 => 0
  | j + 1 => if J.testBit j then vTj B v good J j + vMk B v j good else vTj B v good J j
theorem vTj_255 (B : gm_I) (v : Nat → Int32) (good : Int32) (n : Nat) (hn : n ≤ 8) : vTj B v good 255 n = vTo B v good n := by
  induction n with
  | zero => rfl
  | succ n ih =>
    have : n = 0 ∨ n = 1 ∨ n = 2 ∨ n = 3 ∨ n = 4 ∨ n = 5 ∨ n = 6 ∨ n = 7 := by omega
    have hb : Nat.testBit 255 n = true := by rcases this with rfl | rfl | rfl | rfl | rfl | rfl | rfl | rfl <;> rfl
    simp only [vTj, vTo, hb, if_true, ih (by omega)]
theorem vTj_eq {B : gm_I} {v w : Nat → Int32} (h : vEq v w) (good : Int32) (J n : Nat) : vTj B v good J n = vTj B w good J n := by
  induction n with
  | zero => rfl
  | succ n ih => simp only [vTj, ih, vMk_eq h]
theorem M_sumBy_loop {B im0 : gm_I} {l nm nk nj ns : Nat} (hR : iRoll B l nm nk nj ns) (ho0 : Off B im0) (a J : Nat) (ma sl good : Int32) (lm : gm_L) (ha : a < nm) (hJ : J < 256) : ∀ (w j : Nat) (im : gm_I), j + w = nj → mOff im0 im → ∃ im', gm_den 217 6 [.ref 84, .int (nI a), .int ma, .int sl, .int good, .int (nI J), .int (vTj B (mV im0 l a ma sl) good J j), .int (nI j)] [] 128 gm_RF im lm = some (some (.int (vTj B (mV im0 l a ma sl) good J nj)), 128, gm_RF, im', lm) ∧ mOff im0 im' := by
  intro w
  have hn8 := iR_nj hR
  have hl2 := iR_l hR
  have hm7 := iR_nm hR
  induction w with
  | zero =>
    intro j im hw hm
    have : j = nj := by omega
    subst this
    have ho := ho0.tr hm.off
    refine ⟨im, ?_, hm⟩
    rw [LX12_sumBy_6]
    simp only [QX12_sumBy, iR_18 hR ho, i2 l hl2, iR_101 hR ho, nI_le (Nat.le_refl j) (show j < 2 ^ 31 by omega), if_true]
  | succ w ih =>
    intro j im hw hm
    have ho := ho0.tr hm.off
    rw [LX12_sumBy_6]
    have hlt : ¬ nI nj ≤ nI j := nI_ge (by omega) (by omega)
    by_cases hb : J.testBit j = true
    · obtain ⟨im2, h2, h3⟩ := M_markBy j a l ma sl good im lm (by omega) (by omega) (iR_18 hR ho) hl2 (iR_ns0 hR ho) (mLaws_B ho.law (iR_ml hR))
      rw [mMark_B hR ho (by omega), mV_off hm] at h2
      obtain ⟨im', h4, h5⟩ := ih (j + 1) im2 (by omega) (hm.tr h3)
      simp only [vTj, hb, if_true] at h4 ⊢
      refine ⟨im', ?_, h5⟩
      simp (decide := true) only [QX12_sumBy, iR_18 hR ho, i2 l hl2, iR_101 hR ho, hlt, if_true, if_false, bt hJ (show j < 8 by omega), hb, h2, gm_cont_i, gm_cat_i, nI_a1]
      exact h4
    · obtain ⟨im', h4, h5⟩ := ih (j + 1) im (by omega) hm
      simp only [vTj, hb, if_false] at h4 ⊢
      refine ⟨im', ?_, h5⟩
      simp (decide := true) only [QX12_sumBy, iR_18 hR ho, i2 l hl2, iR_101 hR ho, hlt, if_true, if_false, bt hJ (show j < 8 by omega), hb, gm_cont_i, gm_cat_i, nI_a1]
      exact h4
theorem M_sumBy {B im : gm_I} {l nm nk nj ns : Nat} (hR : iRoll B l nm nk nj ns) (ho : Off B im) (a J : Nat) (ma sl good : Int32) (lm : gm_L) (ha : a < nm) (hJ : J < 256) : ∃ im', gm_den 217 0 [.ref 84, .int (nI a), .int ma, .int sl, .int good, .int (nI J), .null, .null] [] 128 gm_RF im lm = some (some (.int (vTj B (mV im l a ma sl) good J nj)), 128, gm_RF, im', lm) ∧ mOff im im' := by
  obtain ⟨im', h1, h2⟩ := M_sumBy_loop hR ho a J ma sl good lm ha hJ nj 0 im (by omega) (mOff.rf im)
  refine ⟨im', ?_, h2⟩
  simp only [QX12_sumBy, gm_cat_i, gm_cat_n, gm_cat_r]
  exact h1
theorem M_goodNowB {B im : gm_I} {l nm nk nj ns : Nat} (hR : iRoll B l nm nk nj ns) (ho : Off B im) (hr : rOld (im 117) nm) (a : Nat) (sl : Int32) (lm : gm_L) (ha : a < nm) : ∃ im', gm_den 215 0 [.ref 84, .int (nI a), .int sl] [] 128 gm_RF im lm = some (some (.int (vGd B (mV im l a (im 117 (28 + a)) sl))), 128, gm_RF, im', lm) ∧ mOff im im' := by
  have hm7 := iR_nm hR
  obtain ⟨im', h1, h2⟩ := M_goodNow a l sl im lm (by omega) (iR_18 hR ho) (iR_l hR) (mLaws_B ho.law (iR_ml hR))
  rw [mGoodNow_B hR ho hr ha] at h1
  exact ⟨im', h1, h2⟩
/-- SUM of a speech -/
def vT (B : gm_I) (nj : Nat) (v : Nat → Int32) : Int32 := vTo B v (vGd B v) nj
theorem vT_eq {B : gm_I} {v w : Nat → Int32} (h : vEq v w) (nj : Nat) : vT B nj v = vT B nj w := by
  unfold vT; rw [vGd_eq h, vTo_eq h]
theorem M_sumNow {B im : gm_I} {l nm nk nj ns : Nat} (hR : iRoll B l nm nk nj ns) (ho : Off B im) (hr : rOld (im 117) nm) (a : Nat) (sl : Int32) (lm : gm_L) (ha : a < nm) : ∃ im', gm_den 218 0 [.ref 84, .int (nI a), .int sl] [] 128 gm_RF im lm = some (some (.int (vT B nj (mV im l a (im 117 (28 + a)) sl))), 128, gm_RF, im', lm) ∧ mOff im im' := by
  have hm7 := iR_nm hR
  obtain ⟨im1, h1, h2⟩ := M_goodNowB hR ho hr a sl lm ha
  have ho1 := ho.tr h2.off
  obtain ⟨im2, h3, h4⟩ := M_sumBy hR ho1 a 255 (im 117 (28 + a)) sl (vGd B (mV im l a (im 117 (28 + a)) sl)) lm ha (by decide)
  rw [mV_off h2, vTj_255 _ _ _ _ (iR_nj hR)] at h3
  refine ⟨im2, ?_, h2.tr h4⟩
  have e255 : (255 : Int32) = nI 255 := rfl
  simp only [QX12_sumNow, ixr7 a (show a < 7 by omega), if_true, h1, gm_cont_i, e255, h3, vT]
theorem M_speakers_loop {B im : gm_I} {l nm nk nj ns : Nat} (hR : iRoll B l nm nk nj ns) (ho : Off B im) (m : Int32) (lm : gm_L) : ∀ (w a : Nat), a + w = nm → gm_den 219 4 [.ref 84, .int m, .int (nI (gM (fun a => decide (im 117 (21 + a) = m)) a)), .int (nI a)] [] 128 gm_RF im lm = some (some (.int (nI (gM (fun a => decide (im 117 (21 + a) = m)) nm))), 128, gm_RF, im, lm) := by
  intro w
  have hm7 := iR_nm hR
  have hl2 := iR_l hR
  induction w with
  | zero =>
    intro a hw
    have : a = nm := by omega
    subst this
    rw [LX12_speakers_4]
    simp only [QX12_speakers, iR_18 hR ho, i2 l hl2, iR_94 hR ho, nI_le (Nat.le_refl a) (show a < 2 ^ 31 by omega), if_true]
  | succ w ih =>
    intro a hw
    rw [LX12_speakers_4]
    have hlt : ¬ nI nm ≤ nI a := nI_ge (by omega) (by omega)
    have h1 := ih (a + 1) (by omega)
    by_cases hb : im 117 (21 + a) = m
    · simp only [gM, hb, decide_true, if_true] at h1
      simp only [QX12_speakers, iR_18 hR ho, i2 l hl2, iR_94 hR ho, hlt, if_true, if_false, ixr7 a (show a < 7 by omega), hb, not_true_eq_false, bs (show a < 8 by omega) (gM_lt _ a), nI_a1]
      exact h1
    · simp only [gM, hb, decide_false, if_false] at h1
      simp only [QX12_speakers, iR_18 hR ho, i2 l hl2, iR_94 hR ho, hlt, if_true, if_false, ixr7 a (show a < 7 by omega), hb, not_false_eq_true, nI_a1]
      exact h1
/-- who speaks on a motion -/
def mSp (im : gm_I) (nm : Nat) (m : Int32) : Nat := gM (fun a => decide (im 117 (21 + a) = m)) nm
theorem M_speakers {B im : gm_I} {l nm nk nj ns : Nat} (hR : iRoll B l nm nk nj ns) (ho : Off B im) (m : Int32) (lm : gm_L) : gm_den 219 0 [.ref 84, .int m, .null, .null] [] 128 gm_RF im lm = some (some (.int (nI (mSp im nm m))), 128, gm_RF, im, lm) := by
  have h1 := M_speakers_loop hR ho m lm nm 0 (by omega)
  simp only [QX12_speakers, gm_cat_i, gm_cat_n, gm_cat_r]
  exact h1
