/-! the class: what each juror marks -/
/-- a man's speech in the class on a day -/
def dV (B : gm_I) (da : Int32) (b : Nat) : Nat → Int32 := upd (cV B b) 8 da
/-- what a juror marks of a speech, in a bag without the count -/
def eJ (B : gm_I) (v : Nat → Int32) (j : Nat) : Int64 := sPart (v 4) (vMk B v j (vGd B v)) - sPart (v 4) 0
theorem i8 (i : Nat) (hi : i < 8) : gm_in (nI i) 8 = true ∧ (nI i).toNatClampNeg = i := ⟨gm_in_nI hi (by decide), nI_clamp (by omega)⟩
theorem C_gj_in {B : gm_I} {l nm nk nj ns : Nat} (hR : iRoll B l nm nk nj ns) (v : Nat → Int32) (i : Int32) (R : Nat → Int64) : ∀ (w j : Nat) (im : gm_I) (lm : gm_L), j + w = nj → Off B im → vEq (im 69) v → (∀ k, k < nj → lm 78 k = if k < j then R k + eJ B v k else R k) → ∃ im' lm', gm_den 20 79 [.ref 71, .int i, .int (vGd B v), .long (sPart (v 4) 0), .null, .int (nI j)] [] 128 gm_RF im lm = gm_den 20 33 [.ref 71, .int (i + 1), .int (vGd B v), .long (sPart (v 4) 0), .null, .int (nI nj)] [] 128 gm_RF im' lm' ∧ Fr [19, 70] im im' ∧ Fr [78] lm lm' ∧ ∀ k, k < nj → lm' 78 k = R k + eJ B v k := by
  intro w
  have hn8 := iR_nj hR
  induction w with
  | zero =>
    intro j im lm hw ho hv hl
    have : j = nj := by omega
    subst this
    refine ⟨im, lm, ?_, Fr.rf _ _, Fr.rf _ _, fun k hk => by rw [hl k hk, if_pos hk]⟩
    rw [LX0_gatherJurors_79]
    simp only [QX0_gatherJurors, iR_114 hR ho, nI_le (Nat.le_refl j) (show j < 2 ^ 31 by omega), if_true]
  | succ w ih =>
    intro j im lm hw ho hv hl
    have hlt : ¬ nI nj ≤ nI j := nI_ge (by omega) (by omega)
    obtain ⟨im1, h1, f1⟩ := C_markB hR ho hv (show j < nj by omega) (vGd B v) lm
    have e4 : im 69 4 = v 4 := hv 4 (by decide) (by decide)
    have hlj := hl j (by omega)
    rw [if_neg (by omega)] at hlj
    obtain ⟨im', lm', h2, h3, h4, h5⟩ := ih (j + 1) im1 (gm_up lm 78 j (R j + eJ B v j)) (by omega) (ho.tr (f1.off fr19)) (by rw [f1 69 (by decide)]; exact hv) (by
      intro k hk
      by_cases e : k = j
      · subst e; rw [gu_eq, if_pos (by omega)]
      · rw [gu_nk e, hl k hk]
        by_cases h : k < j
        · rw [if_pos h, if_pos (by omega)]
        · rw [if_neg h, if_neg (by omega)])
    refine ⟨im', lm', ?_, f1.tr h3, Fr.tr ((Fr.rf _ lm).up (by simp)) h4, h5⟩
    rw [LX0_gatherJurors_79, ← h2]
    simp only [QX0_gatherJurors, iR_114 hR ho, hlt, if_false, if_true, i8 j (show j < 8 by omega), e4, h1, gm_cont_i, gm_cont_l, C_part, hlj, nI_a1]
    rfl
theorem C_gj_loop {B : gm_I} {l nm nk nj ns : Nat} (hR : iRoll B l nm nk nj ns) (m da : Int32) : ∀ (w i : Nat) (im : gm_I) (lm : gm_L) (x2 x3 x4 x5 : Value), i + w = gc (cSpk B m) nm → Off B im → dW (cSpk B m) nm da im → lm 71 12 = sL (fun i => sPart (dV B da (wh (cSpk B m) nm i) 4) 0) i → (∀ k, k < nj → lm 78 k = sL (fun i => eJ B (dV B da (wh (cSpk B m) nm i)) k) i) → ∃ im' lm', gm_den 20 33 [.ref 71, .int (nI i), x2, x3, x4, x5] [] 128 gm_RF im lm = some (none, 128, gm_RF, im', lm') ∧ Off B im' ∧ Fr [71, 78] lm lm' ∧ Fr [19, 69, 70] im im' ∧ lm' 71 12 = sL (fun i => sPart (dV B da (wh (cSpk B m) nm i) 4) 0) (gc (cSpk B m) nm) ∧ ∀ k, k < nj → lm' 78 k = sL (fun i => eJ B (dV B da (wh (cSpk B m) nm i)) k) (gc (cSpk B m) nm) := by
  intro w
  have hm7 := iR_nm hR
  have hle := gc_le (cSpk B m) nm
  induction w with
  | zero =>
    intro i im lm x2 x3 x4 x5 hw ho hd h1 h2
    have : i = gc (cSpk B m) nm := by omega
    subst this
    refine ⟨im, lm, ?_, ho, Fr.rf _ _, Fr.rf _ _, h1, h2⟩
    rw [LX0_gatherJurors_33]
    simp only [QX0_gatherJurors, hd.1, nI_le (Nat.le_refl _) (show gc (cSpk B m) nm < 2 ^ 31 by omega), if_true]
  | succ w ih =>
    intro i im lm x2 x3 x4 x5 hw ho hd h1 h2
    have hlt : ¬ nI (gc (cSpk B m) nm) ≤ nI i := nI_ge (by omega) (by omega)
    have hi7 : i < 7 := by omega
    obtain ⟨hb1, hb2, hb3⟩ := wh_ok (cSpk B m) (show i < gc (cSpk B m) nm by omega)
    have h72 := hd.2.2 i (by omega)
    have hts := C_takeSp (lm := lm) hi7 (show wh (cSpk B m) nm i < 7 by omega) h72
    let im2 := gm_up (cTake im (wh (cSpk B m) nm i)) 69 8 (im 71 5)
    have fr2 : Fr [69] im im2 := (cTake_fr im (wh (cSpk B m) nm i)).up (by simp)
    have ho2 : Off B im2 := ho.tr (fr2.off (by decide))
    have hv2 : vEq (im2 69) (dV B da (wh (cSpk B m) nm i)) := by
      show vEq (gm_up (cTake im (wh (cSpk B m) nm i)) 69 8 (im 71 5) 69) _
      rw [gu_upd, hd.2.1]
      exact (cTake_v ho _).up 8 da
    obtain ⟨im3, h3, f3⟩ := C_goodB hR ho2 hv2 lm
    have ho3 : Off B im3 := ho2.tr (f3.off fr19)
    have hv3 : vEq (im3 69) (dV B da (wh (cSpk B m) nm i)) := by rw [f3 69 (by decide)]; exact hv2
    have e4 : im3 69 4 = dV B da (wh (cSpk B m) nm i) 4 := hv3 4 (by decide) (by decide)
    obtain ⟨im4, lm4, h4, f4, g4, k4⟩ := C_gj_in hR (dV B da (wh (cSpk B m) nm i)) (nI i) (fun k => sL (fun i => eJ B (dV B da (wh (cSpk B m) nm i)) k) i) nj 0 im3 (gm_up lm 71 12 (lm 71 12 + sPart (dV B da (wh (cSpk B m) nm i) 4) 0)) (by omega) ho3 hv3 (by
      intro k hk
      rw [gu_ne (by decide), if_neg (by omega)]
      exact h2 k hk)
    have fr4 : Fr [19, 69, 70] im im4 := ((fr2.mo (by decide)).tr (f3.mo (by decide))).tr (f4.mo (by decide))
    obtain ⟨im', lm', h5, h6, h7, h8, h9, h10⟩ := ih (i + 1) im4 lm4 (.int (vGd B (dV B da (wh (cSpk B m) nm i)))) (.long (sPart (dV B da (wh (cSpk B m) nm i) 4) 0)) .null (.int (nI nj)) (by omega) (ho.tr (fr4.off (by decide))) (by
      unfold dW
      rw [fr4 71 (by decide), fr4 72 (by decide)]
      exact hd) (by
      rw [g4 71 (by decide), gu_eq, h1]; rfl) (fun k hk => k4 k hk)
    refine ⟨im', lm', ?_, h6, Fr.tr (Fr.tr ((Fr.rf _ lm).up (by simp)) (g4.mo (by simp))) h7, fr4.tr h8, h9, h10⟩
    rw [← h5, ← nI_a1, ← h4, LX0_gatherJurors_33]
    simp only [QX0_gatherJurors, hd.1, hlt, if_false, hts, gm_cont_v]
    rw [show gm_up (cTake im (wh (cSpk B m) nm i)) 69 8 (im 71 5) = im2 from rfl, h3]
    simp only [QX0_gatherJurors, gm_cont_i, gm_cont_l, e4, C_part, gm_cat_i, if_true]
    rfl
theorem C_gj_zero {B : gm_I} {l nm nk nj ns : Nat} (hR : iRoll B l nm nk nj ns) (im : gm_I) (ho : Off B im) : ∀ (w j : Nat) (lm : gm_L), j + w = nj → (∀ k, k < j → lm 78 k = 0) → ∃ lm', gm_den 20 7 [.ref 71, .int (nI j), .null, .null, .null, .null] [] 128 gm_RF im lm = gm_den 20 33 [.ref 71, .int (nI 0), .null, .null, .null, .null] [] 128 gm_RF im lm' ∧ Fr [78] lm lm' ∧ ∀ k, k < nj → lm' 78 k = 0 := by
  intro w
  have hn8 := iR_nj hR
  have n1 : Value.category .null = 1 := rfl
  induction w with
  | zero =>
    intro j lm hw hl
    have : j = nj := by omega
    subst this
    refine ⟨lm, ?_, Fr.rf _ _, hl⟩
    rw [LX0_gatherJurors_7]
    simp only [QX0_gatherJurors, iR_114 hR ho, nI_le (Nat.le_refl j) (show j < 2 ^ 31 by omega), if_true, n1]
    rfl
  | succ w ih =>
    intro j lm hw hl
    have hlt : ¬ nI nj ≤ nI j := nI_ge (by omega) (by omega)
    obtain ⟨lm', h1, h2, h3⟩ := ih (j + 1) (gm_up lm 78 j 0) (by omega) (by
      intro k hk
      by_cases e : k = j
      · subst e; rw [gu_eq]
      · rw [gu_nk e]; exact hl k (by omega))
    refine ⟨lm', ?_, Fr.tr ((Fr.rf _ lm).up (by simp)) h2, h3⟩
    rw [← h1, LX0_gatherJurors_7]
    simp only [QX0_gatherJurors, iR_114 hR ho, hlt, if_false, if_true, i8 j (show j < 8 by omega), nI_a1]
theorem C_gatherJurors {B im : gm_I} {l nm nk nj ns : Nat} (hR : iRoll B l nm nk nj ns) (ho : Off B im) {m da : Int32} (hd : dW (cSpk B m) nm da im) (lm : gm_L) : ∃ im' lm', gm_den 20 0 [.ref 71, .null, .null, .null, .null, .null] [] 128 gm_RF im lm = some (none, 128, gm_RF, im', lm') ∧ Off B im' ∧ Fr [71, 78] lm lm' ∧ Fr [19, 69, 70] im im' ∧ lm' 71 12 = gL (cSpk B m) (fun b => sPart (dV B da b 4) 0) nm ∧ ∀ k, k < nj → lm' 78 k = gL (cSpk B m) (fun b => eJ B (dV B da b) k) nm := by
  obtain ⟨lm1, h1, h2, h3⟩ := C_gj_zero hR im ho nj 0 (gm_up lm 71 12 0) (by omega) (fun k hk => by omega)
  obtain ⟨im', lm', h4, h5, h6, h7, h8, h9⟩ := C_gj_loop hR m da (gc (cSpk B m) nm) 0 im lm1 .null .null .null .null (by omega) ho hd (by rw [h2 71 (by decide), gu_eq]; rfl) (fun k hk => by rw [h3 k hk]; rfl)
  refine ⟨im', lm', ?_, h5, Fr.tr (Fr.tr ((Fr.rf _ lm).up (by simp)) (h2.mo (by simp))) h6, h7, ?_, ?_⟩
  · rw [← h4, ← h1]
    have n1 : Value.category .null = 1 := rfl
    simp only [QX0_gatherJurors, gm_cat_i, gm_cat_r, n1]
    rfl
  · rw [h8, ← sL_wh]
  · intro k hk
    rw [h9 k hk, ← sL_wh]
/-- what some jurors mark together -/
theorem C_bagOf_loop {B : gm_I} {l nm nk nj ns : Nat} (hR : iRoll B l nm nk nj ns) (im : gm_I) (ho : Off B im) (lm : gm_L) (J : Nat) (hJ : J < 256) : ∀ (w j : Nat), j + w = nj → gm_den 21 8 [.ref 71, .int (nI J), .long (lm 71 12 + gL (fun j => J.testBit j) (lm 78) j), .null, .int (nI j)] [] 128 gm_RF im lm = some (some (.long (lm 71 12 + gL (fun j => J.testBit j) (lm 78) nj)), 128, gm_RF, im, lm) := by
  intro w
  have hn8 := iR_nj hR
  induction w with
  | zero =>
    intro j hw
    have : j = nj := by omega
    subst this
    rw [LX0_bagOf_8]
    simp only [QX0_bagOf, iR_114 hR ho, nI_le (Nat.le_refl j) (show j < 2 ^ 31 by omega), if_true]
  | succ w ih =>
    intro j hw
    have ih1 := ih (j + 1) (by omega)
    have hlt : ¬ nI nj ≤ nI j := nI_ge (by omega) (by omega)
    rw [LX0_bagOf_8]
    by_cases hb : J.testBit j = true
    · simp only [gL, hb, if_true, ← Int64.add_assoc] at ih1
      simp (decide := true) only [QX0_bagOf, iR_114 hR ho, hlt, if_false, if_true, i8 j (show j < 8 by omega), bitn hJ (show j < 8 by omega), hb, b32, nI_a1]
      exact ih1
    · simp only [Bool.not_eq_true] at hb
      simp only [gL, hb] at ih1
      simp (decide := true) only [QX0_bagOf, iR_114 hR ho, hlt, if_false, if_true, bitn hJ (show j < 8 by omega), hb, b32, nI_a1]
      exact ih1
theorem C_bagOf {B : gm_I} {l nm nk nj ns : Nat} (hR : iRoll B l nm nk nj ns) (im : gm_I) (ho : Off B im) (lm : gm_L) (J : Nat) (hJ : J < 256) : gm_den 21 0 [.ref 71, .int (nI J), .null, .null, .null] [] 128 gm_RF im lm = some (some (.long (lm 71 12 + gL (fun j => J.testBit j) (lm 78) nj)), 128, gm_RF, im, lm) := by
  have h1 := C_bagOf_loop hR im ho lm J hJ nj 0 (by omega)
  have n1 : Value.category .null = 1 := rfl
  simp only [gL, Int64.add_zero] at h1
  simp only [QX0_bagOf, gm_cat_i, gm_cat_r, n1]
  exact h1
/-- sums of sums -/
theorem gL_add (f : Nat → Bool) (A C : Nat → Int64) (n : Nat) : gL f A n + gL f C n = gL f (fun a => A a + C a) n := by
  induction n with
  | zero => rfl
  | succ n ih =>
    simp only [gL]
    by_cases h : f n = true
    · simp only [h, if_true]
      rw [← ih]
      generalize gL f A n = x
      generalize gL f C n = y
      generalize A n = u
      generalize C n = w
      rw [Int64.add_assoc, Int64.add_assoc]
      congr 1
      rw [← Int64.add_assoc, Int64.add_comm u y, Int64.add_assoc]
    · rw [if_neg h, if_neg h, if_neg h]; exact ih
theorem sPart_add {p t u : Nat} (hp : p < 3) (ht : t + u ≤ 504) : sPart (nI p) (nI t) + (sPart (nI p) (nI u) - sPart (nI p) 0) = sPart (nI p) (nI (t + u)) := by
  rw [show (0 : Int32) = nI 0 from rfl, sPart_ok hp (by omega), sPart_ok hp (by omega), sPart_ok hp (by omega), sPart_ok hp (by omega)]
  have e : (4096 + u) * 2 ^ (16 * p) = u * 2 ^ (16 * p) + (4096 + 0) * 2 ^ (16 * p) := by
    rw [← Nat.add_mul]; congr 1; omega
  rw [e, Int64.ofNat_add (u * 2 ^ (16 * p)), Int64.add_sub_cancel, ← Int64.ofNat_add]
  congr 1
  rw [← Nat.add_mul]; congr 1; omega
theorem bagJ {B : gm_I} {nj : Nat} (hnj : nj ≤ 8) (f : Nat → Bool) {nm : Nat} (v : Nat → Nat → Int32) (hp : ∀ a, a < nm → f a = true → pOk (v a)) (J : Nat) : gL f (fun b => sPart (v b 4) 0) nm + gL (fun j => J.testBit j) (fun k => gL f (fun b => eJ B (v b) k) nm) nj = bag (vSu B nj f nm v J) (vNu f nm v) := by
  have key : ∀ n, n ≤ 8 → gL f (fun b => sPart (v b 4) 0) nm + gL (fun j => J.testBit j) (fun k => gL f (fun b => eJ B (v b) k) nm) n = gL f (fun b => sPart (nI (pN (v b))) (nI (vTn B (v b) (vGd B (v b)) J n))) nm := by
    intro n
    induction n with
    | zero =>
      intro _
      show _ + (0 : Int64) = _
      rw [Int64.add_zero]
      apply gL_ext (fun _ _ => rfl)
      intro a ha hf
      rw [(hp a ha hf).1]; rfl
    | succ n ih =>
      intro hn
      have ih1 := ih (by omega)
      simp only [gL]
      by_cases hb : J.testBit n = true
      · rw [if_pos hb, ← Int64.add_assoc, ih1, gL_add]
        apply gL_ext (fun _ _ => rfl)
        intro a ha hf
        have h1 := (vTn_ok B (v a) (vGd B (v a)) J n).2
        have h2 := vMn_ok B (v a) n (vGd B (v a))
        show _ + (sPart (v a 4) (vMk B (v a) n (vGd B (v a))) - sPart (v a 4) 0) = _
        rw [(hp a ha hf).1, h2.1, sPart_add (hp a ha hf).2 (by omega)]
        simp only [vTn, hb, if_true]
      · rw [if_neg hb, ih1]
        apply gL_ext (fun _ _ => rfl)
        intro a ha hf
        simp only [vTn, if_neg hb]
  rw [key nj hnj]
  exact gL_bag f _ _ nm (fun a ha hf => ⟨(hp a ha hf).2, by have := (vTn_ok B (v a) (vGd B (v a)) J nj).2; omega⟩)
theorem vLanesJ {B : gm_I} {nj : Nat} (hnj : nj ≤ 8) (f : Nat → Bool) {nm : Nat} (hm : nm ≤ 7) (v : Nat → Nat → Int32) (J : Nat) : lanes (vSu B nj f nm v J) (vNu f nm v) :=
  lanes_gN f _ _ nm hm (fun a _ => vS_le B nj (v a) J hnj)
