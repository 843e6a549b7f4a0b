/-! the class: Debate -/
def Fr {α : Type} (L : List Nat) (im im' : Nat → Nat → α) : Prop := ∀ q, q ∉ L → im' q = im q
theorem Fr.rf {α : Type} (L : List Nat) (im : Nat → Nat → α) : Fr L im im := fun _ _ => rfl
theorem Fr.tr {α : Type} {L : List Nat} {a b c : Nat → Nat → α} (h : Fr L a b) (k : Fr L b c) : Fr L a c := fun q hq => (k q hq).trans (h q hq)
theorem Fr.mo {α : Type} {L K : List Nat} {a b : Nat → Nat → α} (h : Fr L a b) (k : ∀ q, q ∈ L → q ∈ K) : Fr K a b := fun q hq => h q (fun hh => hq (k q hh))
theorem Fr.up {α : Type} {L : List Nat} {a b : Nat → Nat → α} (h : Fr L a b) {q k : Nat} {v : α} (hq : q ∈ L) : Fr L a (gm_up b q k v) := fun p hp => by
  rw [gu_row (fun e => hp (by rw [e]; exact hq))]; exact h p hp
theorem Fr.off {L : List Nat} {im im' : gm_I} (h : Fr L im im') (hL : ∀ q, q ∈ L → gs q = true ∧ q ≠ 84) : Off im im' := by
  refine ⟨fun q hq => h q (fun hh => ?_), fun k _ => ?_⟩
  · rw [(hL q hh).1] at hq; cases hq
  · rw [h 84 (fun hh => (hL 84 hh).2 rfl)]
theorem cOff.fr {im im' : gm_I} (h : cOff im im') : Fr [19, 70] im im' := fun q hq => h q (fun e => hq (by simp [e])) (fun e => hq (by simp [e]))
/-- a man's speech in the class -/
def cV (B : gm_I) (a : Nat) : Nat → Int32 := fun i => if i = 2 then nI a else if i = 3 then B 12 (4 * a + 1) else if i = 4 then sPl (B 22 (10 * a + 1)) (B 22 (10 * a + 0)) (B 11 0) else if i = 5 then B 22 (10 * a + 4) else if i = 6 then 0 else if i = 7 then B 22 (10 * a + 5) else if i = 8 then B 22 75 else if i = 9 then (if B 22 (10 * a + 1) = -2 then 0 else 1) else if i = 10 then B 22 (10 * a + 8) else 0
theorem vEq.rf (v : Nat → Int32) : vEq v v := fun _ _ _ => rfl
theorem vEq.sy {v w : Nat → Int32} (h : vEq v w) : vEq w v := fun i a b => (h i a b).symm
theorem vEq.tr {v w x : Nat → Int32} (h : vEq v w) (k : vEq w x) : vEq v x := fun i a b => (h i a b).trans (k i a b)
theorem vEq.up {v w : Nat → Int32} (h : vEq v w) (k : Nat) (x : Int32) : vEq (upd v k x) (upd w k x) := fun i a b => by
  unfold upd; split
  · rfl
  · exact h i a b
theorem gu_upd (im : gm_I) (q k : Nat) (x : Int32) : gm_up im q k x q = upd (im q) k x := by
  funext j; simp only [gm_up, upd]; by_cases h : j = k <;> simp [h]
theorem cTake_v {B im : gm_I} (ho : Off B im) (a : Nat) : vEq (cTake im a 69) (cV B a) := by
  intro i h1 h2
  have : i = 2 ∨ i = 3 ∨ i = 4 ∨ i = 5 ∨ i = 6 ∨ i = 7 ∨ i = 8 ∨ i = 9 ∨ i = 10 := by omega
  have e12 := ho.1 12 rfl
  have e22 := ho.1 22 rfl
  have e11 := ho.1 11 rfl
  rcases this with rfl | rfl | rfl | rfl | rfl | rfl | rfl | rfl | rfl <;> simp [cTake, gm_up, cV, e12, e22, e11]
theorem cTake_fr (im : gm_I) (a : Nat) : Fr [69] im (cTake im a) := (((((((((Fr.rf [69] im).up (by simp)).up (by simp)).up (by simp)).up (by simp)).up (by simp)).up (by simp)).up (by simp)).up (by simp)).up (by simp)
/-- his part of a tally -/
def ent (B : gm_I) (nj : Nat) (v : Nat → Int32) : Int64 := sPart (v 4) (nI (vS B nj v 255))
theorem ent_eq {B : gm_I} {v w : Nat → Int32} (h : vEq v w) (nj : Nat) : ent B nj v = ent B nj w := by
  unfold ent; rw [vS_eq h, h 4 (by decide) (by decide)]
section
variable {B im : gm_I} {l nm nk nj ns : Nat}
theorem C_goodB (hR : iRoll B l nm nk nj ns) (ho : Off B im) {v : Nat → Int32} (hv : vEq (im 69) v) (lm : gm_L) : ∃ im', gm_den 71 0 [.ref 69] [] 128 gm_RF im lm = some (some (.int (vGd B v)), 128, gm_RF, im', lm) ∧ Fr [19, 70] im im' := by
  obtain ⟨im', h1, h2⟩ := C_goodness im lm (cLawsOk_B ho (iR_cl hR))
  rw [cGood_B ho (iR_cl hR), vGd_eq hv] at h1
  exact ⟨im', h1, h2.fr⟩
theorem C_markB (hR : iRoll B l nm nk nj ns) (ho : Off B im) {v : Nat → Int32} (hv : vEq (im 69) v) {j : Nat} (hj : j < nj) (good : Int32) (lm : gm_L) : ∃ im', gm_den 72 0 [.ref 69, .int (nI j), .int good, .null] [] 128 gm_RF im lm = some (some (.int (vMk B v j good)), 128, gm_RF, im', lm) ∧ Fr [19, 70] im im' := by
  have := iR_nj hR
  obtain ⟨im', h1, h2⟩ := C_markBy j good im lm (by omega) (cLawsOk_B ho (iR_cl hR))
  rw [cMark_B ho (iR_cl hR), vMk_eq hv] at h1
  exact ⟨im', h1, h2.fr⟩
theorem C_totB (hR : iRoll B l nm nk nj ns) (ho : Off B im) {v : Nat → Int32} (hv : vEq (im 69) v) (good : Int32) (lm : gm_L) : ∃ im', gm_den 73 0 [.ref 69, .int good, .null, .null] [] 128 gm_RF im lm = some (some (.int (nI (vTn B v good 255 nj))), 128, gm_RF, im', lm) ∧ Fr [19, 70] im im' := by
  obtain ⟨im', h1, h2⟩ := C_totalAs good im lm nj (iR_114 hR ho) (iR_nj hR) (cLawsOk_B ho (iR_cl hR))
  rw [cTot_B ho (iR_cl hR), vTo_eq hv, vTo_nat _ _ _ _ (iR_nj hR)] at h1
  exact ⟨im', h1, h2.fr⟩
theorem C_entB (hR : iRoll B l nm nk nj ns) (ho : Off B im) {v : Nat → Int32} (hv : vEq (im 69) v) (lm : gm_L) : ∃ im', gm_den 74 0 [.ref 69] [] 128 gm_RF im lm = some (some (.long (ent B nj v)), 128, gm_RF, im', lm) ∧ Fr [19, 70] im im' := by
  obtain ⟨im', h1, h2⟩ := C_entry im lm nj (iR_114 hR ho) (iR_nj hR) (cLawsOk_B ho (iR_cl hR))
  rw [cTot_B ho (iR_cl hR), cGood_B ho (iR_cl hR), vGd_eq hv, vTo_eq hv, vTo_nat _ _ _ _ (iR_nj hR), hv 4 (by decide) (by decide)] at h1
  exact ⟨im', h1, h2.fr⟩
theorem C_fineB (hR : iRoll B l nm nk nj ns) (ho : Off B im) {v : Nat → Int32} (hv : vEq (im 69) v) (h0 : nj ≠ 0) (tot : Int32) (lm : gm_L) : ∃ im', gm_den 75 0 [.ref 69, .int tot] [] 128 gm_RF im lm = some (some (.int (vFn B v (tot / nI nj))), 128, gm_RF, im', lm) ∧ Fr [19, 70] im im' := by
  obtain ⟨im', h1, h2⟩ := C_fineFor tot im lm nj (iR_114 hR ho) (by omega) (iR_nj hR) (cLawsOk_B ho (iR_cl hR))
  rw [cFine_B ho (iR_cl hR), vFn_eq hv] at h1
  exact ⟨im', h1, h2.fr⟩
end
theorem fr19 : ∀ q, q ∈ [19, 70] → gs q = true ∧ q ≠ 84 := by decide
/-- how many before a, and who is the i-th -/
def gc (f : Nat → Bool) : Nat → Nat
  | 0 => 0
  | a + 1 => if f a then gc f a + 1 else gc f a
def wh (f : Nat → Bool) : Nat → Nat → Nat
  | 0, _ => 0
  | a + 1, i => if f a = true ∧ i = gc f a then a else wh f a i
theorem gc_le (f : Nat → Bool) (n : Nat) : gc f n ≤ n := by
  induction n with
  | zero => exact Nat.le_refl _
  | succ n ih => simp only [gc]; split <;> omega
theorem gc_mono (f : Nat → Bool) {a b : Nat} (h : a ≤ b) : gc f a ≤ gc f b := by
  induction b with
  | zero => have : a = 0 := by omega
            subst this; exact Nat.le_refl _
  | succ b ih =>
    by_cases e : a = b + 1
    · subst e; exact Nat.le_refl _
    · have := ih (by omega)
      simp only [gc]; split <;> omega
theorem gc_lt (f : Nat → Bool) {a b : Nat} (h : a < b) (hf : f a = true) : gc f a < gc f b := by
  have h1 : gc f (a + 1) = gc f a + 1 := by simp [gc, hf]
  have := gc_mono f (show a + 1 ≤ b by omega)
  omega
theorem wh_gc (f : Nat → Bool) {n b : Nat} (h : b < n) (hf : f b = true) : wh f n (gc f b) = b := by
  induction n with
  | zero => omega
  | succ n ih =>
    simp only [wh]
    by_cases e : b = n
    · subst e; simp [hf]
    · have hlt := gc_lt f (show b < n by omega) hf
      rw [if_neg (fun hh => by omega)]
      exact ih (by omega)
theorem wh_ok (f : Nat → Bool) {n i : Nat} (h : i < gc f n) : wh f n i < n ∧ f (wh f n i) = true ∧ gc f (wh f n i) = i := by
  induction n with
  | zero => simp [gc] at h
  | succ n ih =>
    simp only [gc] at h
    simp only [wh]
    by_cases hf : f n = true
    · rw [if_pos hf] at h
      by_cases e : i = gc f n
      · rw [if_pos ⟨hf, e⟩]; exact ⟨by omega, hf, e.symm⟩
      · rw [if_neg (fun hh => e hh.2)]
        have := ih (by omega)
        exact ⟨by omega, this.2⟩
    · rw [if_neg hf] at h
      rw [if_neg (fun hh => hf hh.1)]
      have := ih h
      exact ⟨by omega, this.2⟩
theorem wh_st (f : Nat → Bool) {n i : Nat} (h : i < gc f n) : wh f (n + 1) i = wh f n i := by
  simp only [wh]; rw [if_neg (fun hh => by omega)]
def sL (F : Nat → Int64) : Nat → Int64
  | 0 => 0
  | i + 1 => sL F i + F i
theorem sL_ext {F G : Nat → Int64} {n : Nat} (h : ∀ i, i < n → F i = G i) : sL F n = sL G n := by
  induction n with
  | zero => rfl
  | succ n ih => simp only [sL]; rw [ih (fun i hi => h i (by omega)), h n (by omega)]
theorem sL_gL (f : Nat → Bool) (F : Nat → Int64) (n : Nat) : sL F (gc f n) = gL f (fun b => F (gc f b)) n := by
  induction n with
  | zero => rfl
  | succ n ih =>
    simp only [gc, gL]
    by_cases hf : f n = true
    · simp only [hf, if_true, sL, ih]
    · rw [if_neg hf, if_neg hf]; exact ih
/-- sums over the i-th speakers are sums over men -/
theorem sL_wh (f : Nat → Bool) (E : Nat → Int64) (n : Nat) : sL (fun i => E (wh f n i)) (gc f n) = gL f E n := by
  rw [sL_gL]
  apply gL_ext (fun _ _ => rfl)
  intro a ha hf
  simp only [wh_gc f ha hf]
theorem i7 (i : Nat) (hi : i < 7) : gm_in (nI i) 7 = true ∧ (nI i).toNatClampNeg = i := ⟨gm_in_nI hi (by decide), nI_clamp (by omega)⟩
theorem C_takeSp {im : gm_I} {i a : Nat} (hi : i < 7) (ha : a < 7) (h72 : im 72 i = nI a) (lm : gm_L) : gm_den 2 0 [.ref 71, .int (nI i)] [] 128 gm_RF im lm = some (none, 128, gm_RF, gm_up (cTake im a) 69 8 (im 71 5), lm) := by
  have h71 : cTake im a 71 5 = im 71 5 := by rw [cTake_fr im a 71 (by decide)]
  simp only [QX0_takeSpeech, i7 i hi, if_true, h72, C_take a im lm ha, gm_cont_v, h71]
/-- who speaks on a motion, in the class -/
def cSpk (B : gm_I) (m : Int32) (a : Nat) : Bool := decide (B 22 (10 * a + 3) = m)
/-- gathered so far -/
def dW (f : Nat → Bool) (n : Nat) (da : Int32) (im : gm_I) : Prop := im 71 4 = nI (gc f n) ∧ im 71 5 = da ∧ ∀ i, i < gc f n → im 72 i = nI (wh f n i)
def dE (f : Nat → Bool) (n : Nat) (E : Nat → Int64) (r : Nat → Int64) : Prop := ∀ i, i < gc f n → r i = E (wh f n i)
theorem frG : ∀ q, q ∈ [19, 69, 70, 71, 72] → gs q = true ∧ q ≠ 84 := by decide
theorem C_gather_loop {B : gm_I} {l nm nk nj ns : Nat} (hR : iRoll B l nm nk nj ns) (m da : Int32) : ∀ (w a : Nat) (im : gm_I) (lm : gm_L), a + w = nm → Off B im → dW (cSpk B m) a da im → dE (cSpk B m) a (fun b => ent B nj (upd (cV B b) 8 da)) (lm 73) → ∃ im' lm', gm_den 1 12 [.ref 71, .int m, .int da, .int (nI a)] [] 128 gm_RF im lm = some (none, 128, gm_RF, im', lm') ∧ Off B im' ∧ dW (cSpk B m) nm da im' ∧ dE (cSpk B m) nm (fun b => ent B nj (upd (cV B b) 8 da)) (lm' 73) ∧ Fr [73] lm lm' ∧ Fr [19, 69, 70, 71, 72] im im' := by
  intro w
  have hm7 := iR_nm hR
  induction w with
  | zero =>
    intro a im lm hw ho hd he
    have : a = nm := by omega
    subst this
    refine ⟨im, lm, ?_, ho, hd, he, Fr.rf _ _, Fr.rf _ _⟩
    rw [LX0_gather_12]
    simp only [QX0_gather, iR_112 hR ho, nI_le (Nat.le_refl a) (show a < 2 ^ 31 by omega), if_true]
  | succ w ih =>
    intro a im lm hw ho hd he
    have hlt : ¬ nI nm ≤ nI a := nI_ge (by omega) (by omega)
    have hg := C_getN a 3 (by omega) (by decide) im lm
    rw [ho.1 22 rfl] at hg
    rw [show (nI 3 : Int32) = 3 from rfl] at hg
    rw [LX0_gather_12]
    by_cases hb : B 22 (10 * a + 3) = m
    · have hf : cSpk B m a = true := by simp [cSpk, hb]
      have hle := gc_le (cSpk B m) a
      have hi7 : gc (cSpk B m) a < 7 := by omega
      let i := gc (cSpk B m) a
      have hsz : ¬ (7 : Int32) ≤ nI i := nI_ge (b := 7) hi7 (by decide)
      let im1 := gm_up im 72 i (nI a)
      have h72 : im1 72 i = nI a := gu_eq
      have ho1 : Off B im1 := ho.up rfl (by decide)
      let im2 := gm_up (cTake im1 a) 69 8 (im1 71 5)
      have hts := C_takeSp (lm := lm) hi7 (show a < 7 by omega) h72
      have e71 : im1 71 5 = da := by show gm_up im 72 i (nI a) 71 5 = da; rw [gu_ne (by decide)]; exact hd.2.1
      have fr2 : Fr [69] im1 im2 := (cTake_fr im1 a).up (by simp)
      have ho2 : Off B im2 := ho1.tr (fr2.off (by decide))
      have hv : vEq (im2 69) (upd (cV B a) 8 da) := by
        show vEq (gm_up (cTake im1 a) 69 8 (im1 71 5) 69) _
        rw [gu_upd, e71]
        exact (cTake_v ho1 a).up 8 da
      obtain ⟨im3, h3, f3⟩ := C_entB hR ho2 hv lm
      have ho3 : Off B im3 := ho2.tr (f3.off fr19)
      have k71 : im3 71 = im 71 := by rw [f3 71 (by decide), fr2 71 (by decide)]; exact gu_row (by decide)
      have k72 : im3 72 = im1 72 := by rw [f3 72 (by decide), fr2 72 (by decide)]
      have e4 : im3 71 4 = nI i := by rw [k71]; exact hd.1
      let im4 := gm_up im3 71 4 (nI (i + 1))
      let lm4 := gm_up lm 73 i (ent B nj (upd (cV B a) 8 da))
      have ho4 : Off B im4 := ho3.up rfl (by decide)
      have gcs : gc (cSpk B m) (a + 1) = i + 1 := by simp [gc, hf, i]
      obtain ⟨im', lm', h5, h6, h7, h8, h9, h10⟩ := ih (a + 1) im4 lm4 (by omega) ho4 (by
        refine ⟨?_, ?_, ?_⟩
        · show gm_up im3 71 4 (nI (i + 1)) 71 4 = _; rw [gu_eq, gcs]
        · show gm_up im3 71 4 (nI (i + 1)) 71 5 = _; rw [gu_nk (by decide), k71]; exact hd.2.1
        · intro j hj
          rw [gcs] at hj
          show gm_up im3 71 4 (nI (i + 1)) 72 j = _
          rw [gu_ne (by decide), k72]
          by_cases e : j = i
          · subst e
            show gm_up im 72 i (nI a) 72 i = _
            rw [gu_eq]
            simp [wh, hf, i]
          · show gm_up im 72 i (nI a) 72 j = _
            rw [gu_nk e, wh_st _ (show j < gc (cSpk B m) a by omega)]
            exact hd.2.2 j (by omega)) (by
        intro j hj
        rw [gcs] at hj
        show gm_up lm 73 i _ 73 j = _
        by_cases e : j = i
        · subst e
          rw [gu_eq]
          have : wh (cSpk B m) (a + 1) i = a := by simp [wh, hf, i]
          simp only [this]
        · rw [gu_nk e, wh_st _ (show j < gc (cSpk B m) a by omega)]
          exact he j (by omega))
      have fr4 : Fr [19, 69, 70, 71, 72] im im4 := by
        have g1 : Fr [19, 69, 70, 71, 72] im im1 := (Fr.rf _ im).up (by decide)
        have g2 : Fr [19, 69, 70, 71, 72] im1 im2 := fr2.mo (by decide)
        have g3 : Fr [19, 69, 70, 71, 72] im2 im3 := f3.mo (by decide)
        exact ((g1.tr g2).tr g3).up (by decide)
      refine ⟨im', lm', ?_, h6, h7, h8, (show Fr [73] lm lm4 from (Fr.rf _ lm).up (by simp)).tr h9, fr4.tr h10⟩
      have e714 : im 71 4 = nI i := hd.1
      have e714' : gm_up im 72 i (nI a) 71 4 = nI i := by rw [gu_ne (by decide)]; exact e714
      have e4b : im2 71 4 = nI i := by rw [fr2 71 (by decide)]; exact e714'
      simp only [QX0_gather, iR_112 hR ho, hlt, if_false, hg, gm_cont_i, hb, not_true_eq_false, e714, hsz, i7 i hi7, if_true, e714']
      rw [hts]
      simp only [QX0_gather, gm_cont_v]
      rw [show gm_up (cTake (gm_up im 72 i (nI a)) a) 69 8 (gm_up im 72 i (nI a) 71 5) = im2 from rfl, e4b, h3]
      simp only [QX0_gather, gm_cont_l, i7 i hi7, if_true, e4, nI_a1]
      exact h5
    · have hf : cSpk B m a = false := by simp [cSpk, hb]
      have gcs : gc (cSpk B m) (a + 1) = gc (cSpk B m) a := by simp [gc, hf]
      obtain ⟨im', lm', h5, h6, h7, h8, h9, h10⟩ := ih (a + 1) im lm (by omega) ho (by
        refine ⟨by rw [gcs]; exact hd.1, hd.2.1, fun j hj => ?_⟩
        rw [gcs] at hj
        rw [wh_st _ hj]; exact hd.2.2 j hj) (by
        intro j hj
        rw [gcs] at hj
        rw [wh_st _ hj]; exact he j hj)
      refine ⟨im', lm', ?_, h6, h7, h8, h9, h10⟩
      simp only [QX0_gather, iR_112 hR ho, hlt, if_false, hg, gm_cont_i, hb, not_false_eq_true, if_true, nI_a1]
      exact h5
theorem C_gather {B im : gm_I} {l nm nk nj ns : Nat} (hR : iRoll B l nm nk nj ns) (ho : Off B im) (m da : Int32) (lm : gm_L) : ∃ im' lm', gm_den 1 0 [.ref 71, .int m, .int da, .null] [] 128 gm_RF im lm = some (none, 128, gm_RF, im', lm') ∧ Off B im' ∧ dW (cSpk B m) nm da im' ∧ dE (cSpk B m) nm (fun b => ent B nj (upd (cV B b) 8 da)) (lm' 73) ∧ Fr [73] lm lm' ∧ Fr [19, 69, 70, 71, 72] im im' := by
  obtain ⟨im', lm', h1, h2, h3, h4, h5, h6⟩ := C_gather_loop hR m da nm 0 (gm_up (gm_up im 71 5 da) 71 4 0) lm (by omega) ((ho.up rfl (by decide)).up rfl (by decide)) (by
    refine ⟨by rw [gu_eq]; rfl, by rw [gu_nk (by decide), gu_eq], fun i hi => ?_⟩
    simp [gc] at hi) (by intro i hi; simp [gc] at hi)
  refine ⟨im', lm', ?_, h2, h3, h4, h5, Fr.tr (((Fr.rf _ im).up (by decide)).up (by decide)) h6⟩
  simp only [QX0_gather, gm_cat_i, gm_cat_n, gm_cat_r]
  exact h1
theorem C_asItIs_loop (im : gm_I) (lm : gm_L) (n : Nat) (hn : im 71 4 = nI n) (h7 : n ≤ 7) : ∀ (w i : Nat), i + w = n → gm_den 3 4 [.ref 71, .long (sL (lm 73) i), .null, .int (nI i)] [] 128 gm_RF im lm = some (some (.long (sL (lm 73) n)), 128, gm_RF, im, lm) := by
  intro w
  induction w with
  | zero =>
    intro i hw
    have : i = n := by omega
    subst this
    rw [LX0_asItIs_4]
    simp only [QX0_asItIs, hn, nI_le (Nat.le_refl i) (show i < 2 ^ 31 by omega), if_true]
  | succ w ih =>
    intro i hw
    have ih1 := ih (i + 1) (by omega)
    have hlt : ¬ nI n ≤ nI i := nI_ge (by omega) (by omega)
    rw [LX0_asItIs_4]
    simp only [QX0_asItIs, hn, hlt, if_true, if_false, i7 i (show i < 7 by omega), nI_a1]
    exact ih1
theorem C_asItIs (im : gm_I) (lm : gm_L) (n : Nat) (hn : im 71 4 = nI n) (h7 : n ≤ 7) : gm_den 3 0 [.ref 71, .null, .null, .null] [] 128 gm_RF im lm = some (some (.long (sL (lm 73) n)), 128, gm_RF, im, lm) := by
  have h1 := C_asItIs_loop im lm n hn h7 n 0 (by omega)
  have n1 : Value.category .null = 1 := rfl
  simp only [QX0_asItIs, gm_cat_i, n1]
  exact h1
