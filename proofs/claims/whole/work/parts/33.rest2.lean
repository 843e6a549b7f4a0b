/-! the class: who had better mumble -/
theorem xor_all : ∀ M : Fin 128, ∀ i : Fin 7, nI M.val ^^^ ((1 : Int32) <<< (nI i.val &&& 31)) = nI (M.val ^^^ 2 ^ i.val) := by decide +kernel
theorem xorn {M i : Nat} (hM : M < 128) (hi : i < 7) : nI M ^^^ ((1 : Int32) <<< (nI i &&& 31)) = nI (M ^^^ 2 ^ i) := xor_all ⟨M, hM⟩ ⟨i, hi⟩
def sdN (B : gm_I) (a : Nat) : Nat := (B 22 (10 * a + 0)).toNatClampNeg
def sdOk (B : gm_I) (nm : Nat) : Prop := ∀ a, a < nm → B 22 (10 * a + 0) = nI (sdN B a) ∧ sdN B a < 3
/-- nobody gains by changing how he speaks: by one more who is turned -/
def rsP (B : gm_I) (f : Nat → Bool) (nm m : Nat) (fl : Nat → Option Nat) (set i : Nat) : Bool := !(decide (¬ eO (fl set) = nI (sdN B (wh f nm i))) && decide (eO (fl (set ^^^ 2 ^ i)) = nI (sdN B (wh f nm i))) && decide (¬ B 13 (3 * m + sdN B (wh f nm i)) ≤ 0))
theorem C_isRest_loop {B im : gm_I} {f : Nat → Bool} {nm m : Nat} (hm : nm ≤ 7) (hmm : m < 5) (hsd : sdOk B nm) (ho : Off B im) (lm : gm_L) (h4 : im 71 4 = nI (gc f nm)) (h72 : ∀ i, i < gc f nm → im 72 i = nI (wh f nm i)) (fl : Nat → Option Nat) (h76 : ∀ s, s < 2 ^ gc f nm → im 76 s = eO (fl s)) (set : Nat) (hset : set < 2 ^ gc f nm) : ∀ (w i : Nat) (x4 x5 : Value), i + w = gc f nm → x4.category = 1 → x5.category = 1 → gm_den 19 2 [.ref 71, .int (nI m), .int (nI set), .int (nI i), x4, x5] [] 128 gm_RF im lm = some (some (.int (b32 (allR (rsP B f nm m fl set) i w))), 128, gm_RF, im, lm) := by
  have hle := gc_le f nm
  have hp := p27 (show gc f nm ≤ 7 by omega)
  intro w
  induction w with
  | zero =>
    intro i x4 x5 hw c4 c5
    have : i = gc f nm := by omega
    subst this
    rw [LX0_isRest_2]
    simp only [QX0_isRest, h4, nI_le (Nat.le_refl (gc f nm)) (show gc f nm < 2 ^ 31 by omega), if_true]
    rfl
  | succ w ih =>
    intro i x4 x5 hw c4 c5
    have hi : i < gc f nm := by omega
    have hlt : ¬ nI (gc f nm) ≤ nI i := nI_ge (by omega) (by omega)
    have hw1 := (wh_ok f hi).1
    obtain ⟨hs1, hs2⟩ := hsd _ hw1
    have hg := C_getN (wh f nm i) 0 (by omega) (by decide) im lm
    rw [ho.1 22 rfl, hs1] at hg
    rw [show (nI 0 : Int32) = 0 from rfl] at hg
    have hx : set ^^^ 2 ^ i < 2 ^ gc f nm := Nat.xor_lt_two_pow hset (Nat.pow_lt_pow_right (by decide) hi)
    have hwo := C_worthOf m (sdN B (wh f nm i)) im lm hmm hs2
    rw [ho.1 13 rfl] at hwo
    have k1 := h76 set hset
    have k2 := h76 _ hx
    rw [LX0_isRest_2]
    simp only [allR, rsP]
    by_cases c1 : eO (fl set) = nI (sdN B (wh f nm i))
    · have ih1 := ih (i + 1) (.int (nI (sdN B (wh f nm i)))) (.int 0) (by omega) rfl rfl
      simp (decide := true) only [QX0_isRest, h4, hlt, if_true, if_false, i7 i (show i < 7 by omega), h72 i hi, hg, gm_cont_i, gm_cat_i, c4, c5, i128 set (show set < 128 by omega), k1, c1, nI_a1, ih1, decide_false, Bool.false_and, Bool.not_false, Bool.true_and]
    · by_cases c2 : eO (fl (set ^^^ 2 ^ i)) = nI (sdN B (wh f nm i))
      · have ih1 := ih (i + 1) (.int (nI (sdN B (wh f nm i)))) (.int 1) (by omega) rfl rfl
        by_cases c3 : B 13 (3 * m + sdN B (wh f nm i)) ≤ 0
        · simp (decide := true) only [QX0_isRest, h4, hlt, if_true, if_false, i7 i (show i < 7 by omega), h72 i hi, hg, gm_cont_i, gm_cat_i, c4, c5, i128 set (show set < 128 by omega), k1, c1, xorn (show set < 128 by omega) (show i < 7 by omega), i128 (set ^^^ 2 ^ i) (show set ^^^ 2 ^ i < 128 by omega), k2, c2, hwo, c3, nI_a1, ih1, decide_false, Bool.and_false, Bool.not_false, Bool.true_and]
        · simp (decide := true) only [QX0_isRest, h4, hlt, if_true, if_false, i7 i (show i < 7 by omega), h72 i hi, hg, gm_cont_i, gm_cat_i, c4, c5, i128 set (show set < 128 by omega), k1, c1, xorn (show set < 128 by omega) (show i < 7 by omega), i128 (set ^^^ 2 ^ i) (show set ^^^ 2 ^ i < 128 by omega), k2, c2, hwo, c3, decide_true, Bool.and_true, Bool.not_true, Bool.false_and]
          rfl
      · have ih1 := ih (i + 1) (.int (nI (sdN B (wh f nm i)))) (.int 0) (by omega) rfl rfl
        simp (decide := true) only [QX0_isRest, h4, hlt, if_true, if_false, i7 i (show i < 7 by omega), h72 i hi, hg, gm_cont_i, gm_cat_i, c4, c5, i128 set (show set < 128 by omega), k1, c1, xorn (show set < 128 by omega) (show i < 7 by omega), i128 (set ^^^ 2 ^ i) (show set ^^^ 2 ^ i < 128 by omega), k2, c2, nI_a1, ih1, decide_false, Bool.and_false, Bool.false_and, Bool.not_false, Bool.true_and]
theorem C_isRest {B im : gm_I} {f : Nat → Bool} {nm m : Nat} (hm : nm ≤ 7) (hmm : m < 5) (hsd : sdOk B nm) (ho : Off B im) (lm : gm_L) (h4 : im 71 4 = nI (gc f nm)) (h72 : ∀ i, i < gc f nm → im 72 i = nI (wh f nm i)) (fl : Nat → Option Nat) (h76 : ∀ s, s < 2 ^ gc f nm → im 76 s = eO (fl s)) (set : Nat) (hset : set < 2 ^ gc f nm) : gm_den 19 0 [.ref 71, .int (nI m), .int (nI set), .null, .null, .null] [] 128 gm_RF im lm = some (some (.int (b32 (allR (rsP B f nm m fl set) 0 (gc f nm)))), 128, gm_RF, im, lm) := by
  have h1 := C_isRest_loop hm hmm hsd ho lm h4 h72 fl h76 set hset (gc f nm) 0 .null .null (by omega) rfl rfl
  have n1 : Value.category .null = 1 := rfl
  simp only [QX0_isRest, gm_cat_i, n1]
  exact h1
theorem C_falls_loop {f : Nat → Bool} {nm : Nat} (hm : nm ≤ 7) (m i : Int32) (lm : gm_L) (fl : Nat → Option Nat) (hfl : wins (lm 75) fl (2 ^ gc f nm)) : ∀ (w s : Nat) (im : gm_I) (x4 : Value), s + w = 2 ^ gc f nm → im 71 4 = nI (gc f nm) → (∀ k, k < s → im 76 k = eO (fl k)) → x4.category = 1 → ∃ im', gm_den 18 10 [.ref 71, .int m, .int i, .int (nI s), x4] [] 128 gm_RF im lm = gm_den 18 41 [.ref 71, .int m, .int i, .int (nI (2 ^ gc f nm)), x4] [] 128 gm_RF im' lm ∧ (∀ k, k < 2 ^ gc f nm → im' 76 k = eO (fl k)) ∧ Fr [76] im im' := by
  have hle := gc_le f nm
  have hp := p27 (show gc f nm ≤ 7 by omega)
  intro w
  induction w with
  | zero =>
    intro s im x4 hw h4 h76 c4
    have : s = 2 ^ gc f nm := by omega
    subst this
    refine ⟨im, ?_, h76, Fr.rf _ _⟩
    rw [LX0_rest_10]
    simp only [QX0_rest, h4, pow2 (show gc f nm < 9 by omega), nI_le (Nat.le_refl (2 ^ gc f nm)) (show 2 ^ gc f nm < 2 ^ 31 by omega), if_true]
  | succ w ih =>
    intro s im x4 hw h4 h76 c4
    have hs : s < 2 ^ gc f nm := by omega
    have hlt : ¬ nI (2 ^ gc f nm) ≤ nI s := nI_ge (by omega) (by omega)
    have hwin := C_win hfl hs im lm .null
    obtain ⟨im', h5, h6, h7⟩ := ih (s + 1) (gm_up im 76 s (eO (fl s))) x4 (by omega) (by rw [gu_ne (by decide)]; exact h4) (by
      intro k hk
      by_cases e : k = s
      · subst e; rw [gu_eq]
      · rw [gu_nk e]; exact h76 k (by omega)) c4
    refine ⟨im', ?_, h6, Fr.tr ((Fr.rf _ im).up (by simp)) h7⟩
    rw [LX0_rest_10]
    generalize gm_den 18 41 [.ref 71, .int m, .int i, .int (nI (2 ^ gc f nm)), x4] [] 128 gm_RF im' lm = z at *
    simp only [QX0_rest, h4, pow2 (show gc f nm < 9 by omega), hlt, if_false, i128 s (show s < 128 by omega), if_true, hwin, gm_cont_i, nI_a1]
    exact h5
theorem C_rest_loop {B im : gm_I} {f : Nat → Bool} {nm m : Nat} (hm : nm ≤ 7) (hmm : m < 5) (hsd : sdOk B nm) (ho : Off B im) (lm : gm_L) (h4 : im 71 4 = nI (gc f nm)) (h72 : ∀ i, i < gc f nm → im 72 i = nI (wh f nm i)) (fl : Nat → Option Nat) (h76 : ∀ s, s < 2 ^ gc f nm → im 76 s = eO (fl s)) (i : Int32) : ∀ (w s fd : Nat), s + w = 2 ^ gc f nm → fd ≤ s → gm_den 18 46 [.ref 71, .int (nI m), .int i, .int (nI fd), .int (nI s)] [] 128 gm_RF im lm = some (some (.int (srch (fun s => allR (rsP B f nm m fl s) 0 (gc f nm)) (fun s => nI (spr f nm s)) i fd s w)), 128, gm_RF, im, lm) := by
  have hle := gc_le f nm
  have hp := p27 (show gc f nm ≤ 7 by omega)
  intro w
  induction w with
  | zero =>
    intro s fd hw hf
    have : s = 2 ^ gc f nm := by omega
    subst this
    rw [LX0_rest_46]
    simp only [srch]
    by_cases hi : i = -1
    · simp (decide := true) only [QX0_rest, h4, pow2 (show gc f nm < 9 by omega), nI_le (Nat.le_refl (2 ^ gc f nm)) (show 2 ^ gc f nm < 2 ^ 31 by omega), if_true, if_false, hi]
    · simp (decide := true) only [QX0_rest, h4, pow2 (show gc f nm < 9 by omega), nI_le (Nat.le_refl (2 ^ gc f nm)) (show 2 ^ gc f nm < 2 ^ 31 by omega), if_true, if_false, hi]
  | succ w ih =>
    intro s fd hw hf
    have hs : s < 2 ^ gc f nm := by omega
    have hlt : ¬ nI (2 ^ gc f nm) ≤ nI s := nI_ge (by omega) (by omega)
    have hr := C_isRest hm hmm hsd ho lm h4 h72 fl h76 s hs
    rw [LX0_rest_46]
    simp only [srch]
    cases hok : allR (rsP B f nm m fl s) 0 (gc f nm) with
    | true =>
      rw [hok] at hr
      by_cases hi : nI fd = i
      · simp (decide := true) only [QX0_rest, h4, pow2 (show gc f nm < 9 by omega), hlt, if_true, if_false, hr, b32_t, gm_cont_i, hi, C_menOf hm im lm h4 h72 s (show s < 256 by omega)]
      · have ih1 := ih (s + 1) (fd + 1) (by omega) (by omega)
        simp (decide := true) only [QX0_rest, h4, pow2 (show gc f nm < 9 by omega), hlt, if_true, if_false, hr, b32_t, gm_cont_i, hi, nI_a1, ih1]
    | false =>
      rw [hok] at hr
      have ih1 := ih (s + 1) fd (by omega) (by omega)
      simp (decide := true) only [QX0_rest, h4, pow2 (show gc f nm < 9 by omega), hlt, if_true, if_false, hr, b32_f, gm_cont_i, nI_a1, ih1]
theorem C_rest {B im : gm_I} {l nm nk nj ns : Nat} (hR : iRoll B l nm nk nj ns) (ho : Off B im) {m : Nat} {da : Int32} (hmm : m < 5) (hsd : sdOk B nm) (hd : dW (cSpk B (nI m)) nm da im) (lm : gm_L) (v0 : Nat → Nat → Int32) (he : dE (cSpk B (nI m)) nm (fun b => ent B nj (v0 b)) (lm 73)) (hp0 : ∀ a, a < nm → cSpk B (nI m) a = true → pOk (v0 a)) (hp1 : ∀ a, a < nm → cSpk B (nI m) a = true → pOk (upd (upd (cV B a) 8 da) 5 1)) (i : Int32) : ∃ im' lm', gm_den 18 0 [.ref 71, .int (nI m), .int i, .null, .null] [] 128 gm_RF im lm = some (some (.int (srch (fun s => allR (rsP B (cSpk B (nI m)) nm m (fun s => vFall B nj (cSpk B (nI m)) nm (fun a => if s.testBit (gc (cSpk B (nI m)) a) then upd (upd (cV B a) 8 da) 5 1 else v0 a)) s) 0 (gc (cSpk B (nI m)) nm)) (fun s => nI (spr (cSpk B (nI m)) nm s)) i 0 0 (2 ^ gc (cSpk B (nI m)) nm))), 128, gm_RF, im', lm') ∧ Off B im' ∧ Fr [74, 75] lm lm' := by
  have hm7 := iR_nm hR
  have hle := gc_le (cSpk B (nI m)) nm
  obtain ⟨im1, lm1, h1, h2, h3, h4, h5, h6⟩ := C_turnByMumble hR ho hd lm
  obtain ⟨lm2, h7, h8, h9⟩ := C_fillBags im1 lm1 (gc (cSpk B (nI m)) nm) h3.1 (by omega)
  have he1 : dE (cSpk B (nI m)) nm (fun b => ent B nj (v0 b)) (lm1 73) := by rw [h5 73 (by decide)]; exact he
  have hw := wins_of (iR_nj hR) hm7 he1 h4 hp0 hp1 (2 ^ gc (cSpk B (nI m)) nm)
  have hw2 : wins (lm2 75) (fun s => vFall B nj (cSpk B (nI m)) nm (fun a => if s.testBit (gc (cSpk B (nI m)) a) then upd (upd (cV B a) 8 da) 5 1 else v0 a)) (2 ^ gc (cSpk B (nI m)) nm) := fun s hs => by rw [h8 s hs]; exact hw s hs
  obtain ⟨im2, ha, hb, hc⟩ := C_falls_loop hm7 (nI m) i lm2 _ hw2 (2 ^ gc (cSpk B (nI m)) nm) 0 im1 .null (by omega) h3.1 (fun k hk => by omega) rfl
  have ho2 : Off B im2 := h2.tr (hc.off (by decide))
  have hl := C_rest_loop hm7 hmm hsd ho2 lm2 (by rw [hc 71 (by decide)]; exact h3.1) (fun k hk => by rw [hc 72 (by decide)]; exact h3.2.2 k hk) _ hb i (2 ^ gc (cSpk B (nI m)) nm) 0 0 (by omega) (Nat.le_refl _)
  refine ⟨im2, lm2, ?_, ho2, (h5.mo (by decide)).tr (h9.mo (by decide))⟩
  have n1 : Value.category .null = 1 := rfl
  have e0 : gm_den 18 0 [.ref 71, .int (nI m), .int i, .null, .null] [] 128 gm_RF im lm = gm_den 18 10 [.ref 71, .int (nI m), .int i, .int (nI 0), .null] [] 128 gm_RF im1 lm2 := by
    simp only [QX0_rest, h1, h7, gm_cont_v, gm_cat_i, n1]
    rfl
  have e1 : gm_den 18 41 [.ref 71, .int (nI m), .int i, .int (nI (2 ^ gc (cSpk B (nI m)) nm)), .null] [] 128 gm_RF im2 lm2 = gm_den 18 46 [.ref 71, .int (nI m), .int i, .int (nI 0), .int (nI 0)] [] 128 gm_RF im2 lm2 := by
    simp only [QX0_rest, gm_cat_i, n1]
    rfl
  rw [e0, ha, e1]
  exact hl
