/-! the class: Speech -/
theorem gu_ne {α : Type} {f : Nat → Nat → α} {o k a b : Nat} {v : α} (h : a ≠ o) : gm_up f o k v a b = f a b := by simp [gm_up, h]
theorem gu_row {α : Type} {f : Nat → Nat → α} {o k a : Nat} {v : α} (h : a ≠ o) : gm_up f o k v a = f a := by funext b; exact gu_ne h
theorem gu_eq {α : Type} {f : Nat → Nat → α} {o k : Nat} {v : α} : gm_up f o k v o k = v := by simp [gm_up]
theorem gu_nk {α : Type} {f : Nat → Nat → α} {o k b : Nat} {v : α} (h : b ≠ k) : gm_up f o k v o b = f o b := by simp [gm_up, h]
/-- the variables of a law -/
def sV (skill manner slip praise day good lean which sworn : Int32) : Nat → Int32 := fun i => if i = 0 then skill else if i = 1 then manner else if i = 2 then slip else if i = 3 then praise else if i = 4 then day else if i = 5 then good else if i = 6 then lean else if i = 7 then which else if i = 8 then sworn else 0
def sClamp (lo hi v : Int32) : Int32 := if lo < (if v < hi then v else hi) then (if v < hi then v else hi) else lo
/-- a law looks at nine variables, and at nothing but its rows -/
theorem cEv_va (stp arg : Nat → Int32) (sz : Nat) (va vb : Nat → Int32) (hv : ∀ i, i < 9 → va i = vb i) (harg : ∀ pos, pos < sz → stp pos = 1 → (arg pos).toNatClampNeg < 9) : ∀ (f pos top : Nat) (nu : Nat → Int32), cEv stp arg sz va f pos top nu = cEv stp arg sz vb f pos top nu := by
  intro f
  induction f with
  | zero => intro pos top nu; rfl
  | succ f ih =>
    intro pos top nu
    simp only [cEv]
    by_cases c1 : sz ≤ pos
    · simp only [c1, if_true]
    · by_cases c3 : stp pos = 1
      · rw [hv _ (harg pos (by omega) c3)]
        simp only [ih]
      · simp only [ih, c3, if_false]
theorem cLaw_eq {im im' : gm_I} {j : Nat} {va vb : Nat → Int32} (h : cLawsOk im) (h15 : im' 15 = im 15) (h16 : im' 16 = im 16) (h17 : im' 17 = im 17) (h18 : im' 18 = im 18) (hv : ∀ i, i < 9 → va i = vb i) : cLaw im' j va = cLaw im j vb := by
  obtain ⟨sz, ⟨hs1, hs2, hs3⟩, -⟩ := h
  have hszc : (nI sz).toNatClampNeg = sz := nI_clamp (by omega)
  unfold cLaw
  rw [h15, h16, h17, h18, hs1, hszc]
  rw [cEv_va (im 16) (im 17) sz va vb hv]
  intro pos hpos h1
  obtain ⟨i, hi1, hi2, hi3⟩ := hs3 pos hpos
  rw [hi2, nI_clamp (by omega)]
  exact hi3 h1
theorem cLawsOk_of {im im' : gm_I} (h : cLawsOk im) (h15 : im' 15 = im 15) (h16 : im' 16 = im 16) (h17 : im' 17 = im 17) (h18 : im' 18 = im 18) : cLawsOk im' := by
  obtain ⟨sz, ⟨hs1, hs2, hs3⟩, h4⟩ := h
  exact ⟨sz, ⟨by rw [h15]; exact hs1, hs2, by rw [h16, h17]; exact hs3⟩, by rw [h18]; exact h4⟩
/-- the same but for scratch: numbers and variables -/
def cOff (im im' : gm_I) : Prop := ∀ q, q ≠ 19 → q ≠ 70 → im' q = im q
theorem cOff.rf (im : gm_I) : cOff im im := fun _ _ _ => rfl
theorem cOff.tr {a b c : gm_I} (h : cOff a b) (k : cOff b c) : cOff a c := fun q h1 h2 => (k q h1 h2).trans (h q h1 h2)
theorem cOff.ok {im im' : gm_I} (h : cOff im im') (k : cLawsOk im) : cLawsOk im' := cLawsOk_of k (h 15 (by decide) (by decide)) (h 16 (by decide) (by decide)) (h 17 (by decide) (by decide)) (h 18 (by decide) (by decide))
theorem cOff.law {im im' : gm_I} (h : cOff im im') (k : cLawsOk im) (j : Nat) (va : Nat → Int32) : cLaw im' j va = cLaw im j va := cLaw_eq k (h 15 (by decide) (by decide)) (h 16 (by decide) (by decide)) (h 17 (by decide) (by decide)) (h 18 (by decide) (by decide)) (fun _ _ => rfl)
def cSV (im : gm_I) (p g l w : Int32) : gm_I := gm_up (gm_up (gm_up (gm_up (gm_up (gm_up (gm_up (gm_up (gm_up im 70 0 (im 69 3)) 70 1 (im 69 5)) 70 2 (im 69 6)) 70 3 p) 70 4 (im 69 8)) 70 5 g) 70 6 l) 70 7 w) 70 8 (im 69 9)
theorem cSV_off (im : gm_I) (p g l w : Int32) : cOff im (cSV im p g l w) := by
  intro q h1 h2
  funext j
  simp only [cSV, gm_up, h2, if_false]
theorem cSV_va (im : gm_I) (p g l w : Int32) (i : Nat) (hi : i < 9) : cSV im p g l w 70 i = sV (im 69 3) (im 69 5) (im 69 6) p (im 69 8) g l w (im 69 9) i := by
  have : i = 0 ∨ i = 1 ∨ i = 2 ∨ i = 3 ∨ i = 4 ∨ i = 5 ∨ i = 6 ∨ i = 7 ∨ i = 8 := by omega
  rcases this with rfl | rfl | rfl | rfl | rfl | rfl | rfl | rfl | rfl <;> simp [cSV, gm_up, sV]
theorem C_setVars (p g l w : Int32) (im : gm_I) (lm : gm_L) : gm_den 76 0 [.ref 69, .int p, .int g, .int l, .int w] [] 128 gm_RF im lm = some (none, 128, gm_RF, cSV im p g l w, lm) := by
  simp (decide := true) only [QX7_setVars, if_true, gu_ne, cSV]
  rfl
/-- setVars and a law: what comes out -/
theorem cLaw_SV {im : gm_I} (h : cLawsOk im) (j : Nat) (p g l w : Int32) : cLaw (cSV im p g l w) j (cSV im p g l w 70) = cLaw im j (sV (im 69 3) (im 69 5) (im 69 6) p (im 69 8) g l w (im 69 9)) := by
  have ho := cSV_off im p g l w
  exact cLaw_eq h (ho 15 (by decide) (by decide)) (ho 16 (by decide) (by decide)) (ho 17 (by decide) (by decide)) (ho 18 (by decide) (by decide)) (cSV_va im p g l w)
theorem cVIm_off (im : gm_I) (j : Nat) : cOff im (cVIm im j) := fun q h1 _ => cVIm_ne im j h1
/-- GOOD of the speech in hand -/
def cGood (im : gm_I) : Int32 := if im 69 10 = -1 then sClamp 0 99 (cLaw im 0 (sV (im 69 3) (im 69 5) (im 69 6) (im 69 7) (im 69 8) 0 0 (im 69 2) (im 69 9))) else im 69 10
theorem C_goodness (im : gm_I) (lm : gm_L) (hok : cLawsOk im) : ∃ im', gm_den 71 0 [.ref 69] [] 128 gm_RF im lm = some (some (.int (cGood im)), 128, gm_RF, im', lm) ∧ cOff im im' := by
  by_cases h : im 69 10 = -1
  · refine ⟨cVIm (cSV im (im 69 7) 0 0 (im 69 2)) 0, ?_, (cSV_off _ _ _ _ _).tr (cVIm_off _ _)⟩
    have hok2 := (cSV_off im (im 69 7) 0 0 (im 69 2)).ok hok
    simp only [QX7_goodness, h, if_true, if_false, C_setVars, gm_cont_v, C_value _ _ hok2, gm_cont_i, cLaw_SV hok, cGood, sClamp, not_true_eq_false]
  · refine ⟨im, ?_, cOff.rf im⟩
    simp only [QX7_goodness, h, if_false, cGood]
/-- a joke's odd mark -/
def sJoke (manner v : Int32) : Int32 := if manner = 2 then (if v - v / 2 * 2 = 1 then (if v = 1 then 2 else v - 1) else v) else v
def cMark (im : gm_I) (j : Nat) (good : Int32) : Int32 := if im 69 5 = 1 then 4 else sJoke (im 69 5) (sClamp 1 9 (cLaw im 1 (sV (im 69 3) (im 69 5) (im 69 6) (im 69 7) (im 69 8) good (if im 14 j = im 69 4 then 1 else 0) (nI j) (im 69 9))))
theorem C_markBy (j : Nat) (good : Int32) (im : gm_I) (lm : gm_L) (hj : j < 8) (hok : cLawsOk im) : ∃ im', gm_den 72 0 [.ref 69, .int (nI j), .int good, .null] [] 128 gm_RF im lm = some (some (.int (cMark im j good)), 128, gm_RF, im', lm) ∧ cOff im im' := by
  have hin : gm_in (nI j) 8 = true := gm_in_nI hj (by decide)
  have hcl : (nI j).toNatClampNeg = j := nI_clamp (by omega)
  by_cases h : im 69 5 = 1
  · refine ⟨im, ?_, cOff.rf im⟩
    simp only [QX7_markBy, h, if_true, if_false, cMark, not_true_eq_false]
  · refine ⟨cVIm (cSV im (im 69 7) good (if im 14 j = im 69 4 then 1 else 0) (nI j)) 1, ?_, (cSV_off _ _ _ _ _).tr (cVIm_off _ _)⟩
    have hok2 := (cSV_off im (im 69 7) good (if im 14 j = im 69 4 then 1 else 0) (nI j)).ok hok
    have h69 : ∀ i, cVIm (cSV im (im 69 7) good (if im 14 j = im 69 4 then 1 else 0) (nI j)) 1 69 i = im 69 i := fun i => by
      rw [((cSV_off im (im 69 7) good (if im 14 j = im 69 4 then 1 else 0) (nI j)).tr (cVIm_off _ 1)) 69 (by decide) (by decide)]
    by_cases hl : im 14 j = im 69 4
    · simp only [hl, if_true] at hok2 h69 ⊢
      simp (decide := true) only [QX7_markBy, h, hl, if_true, if_false, hin, hcl, C_setVars, gm_cont_v, C_value _ _ hok2, gm_cont_i, cLaw_SV hok, gm_cat_i, h69]
      simp only [cMark, h, hl, if_true, if_false, sJoke, sClamp]
      generalize cLaw im 1 (sV (im 69 3) (im 69 5) (im 69 6) (im 69 7) (im 69 8) good 1 (nI j) (im 69 9)) = v
      generalize (if 1 < (if v < 9 then v else 9) then (if v < 9 then v else 9) else 1) = w
      by_cases h2 : im 69 5 = 2
      · by_cases h3 : w - w / 2 * 2 = 1
        · by_cases h4 : w = 1
          · simp [h2, h3, h4]
          · simp [h2, h3, h4]
        · simp [h2, h3]
      · simp [h2]
    · simp only [hl, if_false] at hok2 h69 ⊢
      simp (decide := true) only [QX7_markBy, h, hl, if_true, if_false, hin, hcl, C_setVars, gm_cont_v, C_value _ _ hok2, gm_cont_i, cLaw_SV hok, gm_cat_i, h69]
      simp only [cMark, h, hl, if_true, if_false, sJoke, sClamp]
      generalize cLaw im 1 (sV (im 69 3) (im 69 5) (im 69 6) (im 69 7) (im 69 8) good 0 (nI j) (im 69 9)) = v
      generalize (if 1 < (if v < 9 then v else 9) then (if v < 9 then v else 9) else 1) = w
      by_cases h2 : im 69 5 = 2
      · by_cases h3 : w - w / 2 * 2 = 1
        · by_cases h4 : w = 1
          · simp [h2, h3, h4]
          · simp [h2, h3, h4]
        · simp [h2, h3]
      · simp [h2]
/-- SUM of the speech in hand, as if its GOOD were so -/
def cTot (im : gm_I) (good : Int32) : Nat → Int32
  | 0 => 0
  | j + 1 => cTot im good j + cMark im j good
theorem cMark_off {im im' : gm_I} (h : cOff im im') (hok : cLawsOk im) (j : Nat) (good : Int32) : cMark im' j good = cMark im j good := by
  unfold cMark
  rw [h 69 (by decide) (by decide), h 14 (by decide) (by decide), h.law hok]
theorem C_totalAs_loop (good : Int32) (im : gm_I) (lm : gm_L) (nj : Nat) (hn : im 11 4 = nI nj) (hj8 : nj ≤ 8) (hok : cLawsOk im) : ∀ (w j : Nat) (im1 : gm_I), j + w = nj → cOff im im1 → ∃ im', gm_den 73 4 [.ref 69, .int good, .int (cTot im good j), .int (nI j)] [] 128 gm_RF im1 lm = some (some (.int (cTot im good nj)), 128, gm_RF, im', lm) ∧ cOff im im' := by
  intro w
  induction w with
  | zero =>
    intro j im1 hw ho
    have : j = nj := by omega
    subst this
    refine ⟨im1, ?_, ho⟩
    rw [LX7_totalAs_4]
    have h11 : im1 11 4 = nI j := by rw [ho 11 (by decide) (by decide)]; exact hn
    simp only [QX7_totalAs, h11, nI_le (Nat.le_refl j) (show j < 2 ^ 31 by omega), if_true]
  | succ w ih =>
    intro j im1 hw ho
    rw [LX7_totalAs_4]
    have h11 : im1 11 4 = nI nj := by rw [ho 11 (by decide) (by decide)]; exact hn
    have hlt : ¬ nI nj ≤ nI j := nI_ge (by omega) (by omega)
    obtain ⟨im2, h2, h3⟩ := C_markBy j good im1 lm (by omega) (ho.ok hok)
    obtain ⟨im', h4, h5⟩ := ih (j + 1) im2 (by omega) (ho.tr h3)
    refine ⟨im', ?_, h5⟩
    simp only [QX7_totalAs, h11, hlt, if_false, h2, gm_cont_i, gm_cat_i, nI_a1, cMark_off ho hok]
    exact h4
theorem C_totalAs (good : Int32) (im : gm_I) (lm : gm_L) (nj : Nat) (hn : im 11 4 = nI nj) (hj8 : nj ≤ 8) (hok : cLawsOk im) : ∃ im', gm_den 73 0 [.ref 69, .int good, .null, .null] [] 128 gm_RF im lm = some (some (.int (cTot im good nj)), 128, gm_RF, im', lm) ∧ cOff im im' := by
  obtain ⟨im', h1, h2⟩ := C_totalAs_loop good im lm nj hn hj8 hok nj 0 im (by omega) (cOff.rf im)
  refine ⟨im', ?_, h2⟩
  simp only [QX7_totalAs, gm_cat_i, gm_cat_n, gm_cat_r]
  exact h1
/-- the speech as a man is to speak it -/
def cTake (im : gm_I) (a : Nat) : gm_I := gm_up (gm_up (gm_up (gm_up (gm_up (gm_up (gm_up (gm_up (gm_up im 69 2 (nI a)) 69 3 (im 12 (4 * a + 1))) 69 4 (sPl (im 22 (10 * a + 1)) (im 22 (10 * a + 0)) (im 11 0))) 69 5 (im 22 (10 * a + 4))) 69 6 0) 69 7 (im 22 (10 * a + 5))) 69 8 (im 22 75)) 69 9 (if im 22 (10 * a + 1) = -2 then 0 else 1)) 69 10 (im 22 (10 * a + 8))
theorem C_take (a : Nat) (im : gm_I) (lm : gm_L) (ha : a < 7) : gm_den 70 0 [.ref 69, .ref 21, .int (nI a)] [] 128 gm_RF im lm = some (none, 128, gm_RF, cTake im a, lm) := by
  by_cases hsw : im 22 (10 * a + 1) = -2
  · simp (decide := true) only [QX7_take, C_told, C_pleadsFor, C_get, C_day, C_isSworn, ha, gm_cont_i, gu_ne, hsw, if_true, if_false, cTake]
  · simp (decide := true) only [QX7_take, C_told, C_pleadsFor, C_get, C_day, C_isSworn, ha, gm_cont_i, gu_ne, hsw, if_true, if_false, cTake]
/-- the fine that the law asks -/
def cFine (im : gm_I) (q : Int32) : Int32 := sClamp 0 99 (cLaw im 2 (sV (im 69 3) (im 69 5) (im 69 6) 0 (im 69 8) q 0 (im 69 2) (im 69 9)))
theorem C_fineFor (tot : Int32) (im : gm_I) (lm : gm_L) (nj : Nat) (hn : im 11 4 = nI nj) (h0 : 0 < nj) (hj8 : nj ≤ 8) (hok : cLawsOk im) : ∃ im', gm_den 75 0 [.ref 69, .int tot] [] 128 gm_RF im lm = some (some (.int (cFine im (tot / nI nj))), 128, gm_RF, im', lm) ∧ cOff im im' := by
  refine ⟨cVIm (cSV im 0 (tot / nI nj) 0 (im 69 2)) 2, ?_, (cSV_off _ _ _ _ _).tr (cVIm_off _ _)⟩
  have hok2 := (cSV_off im 0 (tot / nI nj) 0 (im 69 2)).ok hok
  have hl : ¬ nI nj ≤ 0 := nI_nle h0 (by omega)
  have hz : ¬ nI nj = 0 := nI_ne0 h0 (by omega)
  simp only [QX7_fineFor, hn, hl, hz, if_false, if_true, C_setVars, gm_cont_v, C_value _ _ hok2, gm_cont_i, cLaw_SV hok, cFine, sClamp]
/-- Tally: sums and numbers of speeches in a long -/
def sPart (s : Int32) (t : Int32) : Int64 := (4096 + t).toInt64 <<< ((16 * s).toInt64 &&& 63)
theorem C_part (s t : Int32) (im : gm_I) (lm : gm_L) : gm_den 90 0 [.int s, .int t] [] 128 gm_RF im lm = some (some (.long (sPart s t)), 128, gm_RF, im, lm) := by
  simp only [QX9_part, sPart]
theorem C_entry (im : gm_I) (lm : gm_L) (nj : Nat) (hn : im 11 4 = nI nj) (hj8 : nj ≤ 8) (hok : cLawsOk im) : ∃ im', gm_den 74 0 [.ref 69] [] 128 gm_RF im lm = some (some (.long (sPart (im 69 4) (cTot im (cGood im) nj))), 128, gm_RF, im', lm) ∧ cOff im im' := by
  obtain ⟨im1, h1, h2⟩ := C_goodness im lm hok
  have hn1 : im1 11 4 = nI nj := by rw [h2 11 (by decide) (by decide)]; exact hn
  obtain ⟨im2, h3, h4⟩ := C_totalAs (cGood im) im1 lm nj hn1 hj8 (h2.ok hok)
  have hct : ∀ k, cTot im1 (cGood im) k = cTot im (cGood im) k := by
    intro k
    induction k with
    | zero => rfl
    | succ k ih => simp only [cTot, ih, cMark_off h2 hok]
  rw [hct] at h3
  refine ⟨im2, ?_, h2.tr h4⟩
  simp only [QX7_entry, h1, gm_cont_i, h3, C_part, gm_cont_l]
