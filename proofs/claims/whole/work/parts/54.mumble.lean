/-! questions: mumble -/
section
variable {B : gm_I} {l nm nk nj ns : Nat}
theorem mV_cVx {X : gm_I} (hR : iRoll B l nm nk nj ns) (ho : Off B X) {r : Nat → Int32} (hr : rRel (B 22) r nm nk ns) {a : Nat} (ha : a < nm) (h0 : X 117 a = r a) (h7 : X 117 (7 + a) = r (7 + a)) (h35 : X 117 (35 + a) = r (35 + a)) (h49 : X 117 (49 + a) = r (49 + a)) (h56 : X 117 (56 + a) = r (56 + a)) (h75 : X 117 75 = r 75) (ma sl : Int32) : vEq (mV X l a ma sl) (upd (upd (cV B a) 5 ma) 6 sl) := by
  let Y : gm_I := fun q j => if q = 117 then r j else X q j
  have oY : Off B Y := by
    refine ⟨fun q hq => ?_, fun k hk => ?_⟩
    · have : q ≠ 117 := by intro e; subst e; exact absurd hq (by decide)
      funext j
      show (if q = 117 then r j else X q j) = _
      rw [if_neg this, ho.1 q hq]
    · exact ho.2 k hk
  have hY := mV_cV hR oY hr (fun j _ => rfl) ha ma sl
  have e : mV X l a ma sl = mV Y l a ma sl := by
    unfold mV
    rw [h0, h7, h35, h49, h56, h75]
    rfl
  rw [e]
  exact hY
/-- speeches if some mumbled -/
def muV (B : gm_I) (t a : Nat) : Nat → Int32 := if t.testBit a then upd (dV B (B 22 75) a) 5 1 else dV B (B 22 75) a
def muF (B : gm_I) (nj nm m t : Nat) : Option Nat := vFall B nj (cSpk B (nI m)) nm (muV B t)
def muK (B : gm_I) (nj nm m t : Nat) : Bool := preR (fun a => !(cSpk B (nI m) a && (decide (¬ eO (muF B nj nm m t) = nI (sdN B a)) && decide (eO (muF B nj nm m (t ^^^ 2 ^ a)) = nI (sdN B a)) && decide (¬ B 13 (3 * m + sdN B a) ≤ 0)))) nm
theorem mu_same {m : Nat} (hm7 : nm ≤ 7) (s : Nat) : allR (rsP B (cSpk B (nI m)) nm m (fun s => vFall B nj (cSpk B (nI m)) nm (fun a => if s.testBit (gc (cSpk B (nI m)) a) then upd (upd (cV B a) 8 (B 22 75)) 5 1 else dV B (B 22 75) a)) s) 0 (gc (cSpk B (nI m)) nm) = muK B nj nm m (spr (cSpk B (nI m)) nm s) := by
  generalize hf : cSpk B (nI m) = f
  have e1 : ∀ t, vFall B nj f nm (fun a => if t.testBit (gc f a) then upd (upd (cV B a) 8 (B 22 75)) 5 1 else dV B (B 22 75) a) = muF B nj nm m (spr f nm t) := by
    intro t
    unfold muF
    rw [hf]
    apply vFall_ext (fun _ _ => rfl)
    intro a ha hfa
    unfold muV
    rw [spr_bit f t ha hfa]
    exact vEq.rf _
  have e2 : ∀ i, i < gc f nm → vFall B nj f nm (fun a => if (s ^^^ 2 ^ i).testBit (gc f a) then upd (upd (cV B a) 8 (B 22 75)) 5 1 else dV B (B 22 75) a) = muF B nj nm m (spr f nm s ^^^ 2 ^ wh f nm i) := by
    intro i hi
    obtain ⟨w1, w2, w3⟩ := wh_ok f hi
    unfold muF
    rw [hf]
    apply vFall_ext (fun _ _ => rfl)
    intro a ha hfa
    unfold muV
    have : (s ^^^ 2 ^ i).testBit (gc f a) = (spr f nm s ^^^ 2 ^ wh f nm i).testBit a := by
      rw [Nat.testBit_xor, Nat.testBit_xor, spr_bit f s ha hfa, Nat.testBit_two_pow, Nat.testBit_two_pow]
      congr 1
      by_cases e : a = wh f nm i
      · subst e; simp [w3]
      · have : ¬ i = gc f a := fun e2 => e (by rw [e2]; exact (wh_gc f ha hfa).symm)
        simp [this, Ne.symm e]
    rw [this]
    exact vEq.rf _
  rw [Bool.eq_iff_iff, allR_iff]
  unfold muK
  rw [preR_iff, hf]
  constructor
  · intro h a ha
    cases hfa : f a with
    | false => rfl
    | true =>
      have hg := gc_lt f ha hfa
      have := h (gc f a) (Nat.zero_le _) (by omega)
      unfold rsP at this
      simp only [e2 (gc f a) hg, wh_gc f ha hfa, e1 s] at this
      simpa using this
  · intro h i _ hi
    have hi' : i < gc f nm := by omega
    obtain ⟨w1, w2, w3⟩ := wh_ok f hi'
    have := h (wh f nm i) w1
    rw [w2] at this
    unfold rsP
    simp only [e2 i hi', e1 s]
    simpa using this
/-- the row with some mumbling -/
def muR (B X : gm_I) (all t a : Nat) : Prop := ∀ j, j < 80 → X 117 j = if 28 ≤ j ∧ j < 28 + a ∧ t.testBit (j - 28) = true ∧ all.testBit (j - 28) = true then 1 else B 116 j
theorem M_mu_in (hR : iRoll B l nm nk nj ns) (x1 x2 : Int32) {all t : Nat} (hall : all < 128) (ht : t < 128) (lm : gm_L) : ∀ (w a : Nat) (im : gm_I), a + w = nm → Off B im → muR B im all t a → ∃ im', Off B im' ∧ muR B im' all t nm ∧ Fr [117] im im' ∧ gm_den 254 43 [.ref 84, .int x1, .int x2, .int (nI all), .int (nI t), .int (nI a)] [] 128 gm_RF im lm = gm_den 254 95 [.ref 84, .int x1, .int x2, .int (nI all), .int (nI t), .int (nI nm)] [] 128 gm_RF im' lm := by
  have hm7 := iR_nm hR
  have hl2 := iR_l hR
  intro w
  induction w with
  | zero =>
    intro a im hw ho hs
    have : a = nm := by omega
    subst this
    refine ⟨im, ho, hs, Fr.rf _ _, ?_⟩
    rw [LX12_mumble_43]
    simp only [QX12_mumble, iR_18 hR ho, i2 l hl2, iR_94 hR ho, nI_le (Nat.le_refl a) (show a < 2 ^ 31 by omega), if_true]
  | succ w ih =>
    intro a im hw ho hs
    have ha7 : a < 7 := by omega
    have hlt : ¬ nI nm ≤ nI a := nI_ge (by omega) (by omega)
    by_cases hb : t.testBit a = true ∧ all.testBit a = true
    · obtain ⟨im', o', s', f', h'⟩ := ih (a + 1) (gm_up im 117 (28 + a) 1) (by omega) (ho.up rfl (by decide)) (by
        intro j hj
        by_cases e : j = 28 + a
        · subst e
          rw [gu_eq, if_pos ⟨by omega, by omega, by rw [Nat.add_sub_cancel_left]; exact hb.1, by rw [Nat.add_sub_cancel_left]; exact hb.2⟩]
        · rw [gu_nk e, hs j hj]
          by_cases hc : 28 ≤ j ∧ j < 28 + a ∧ t.testBit (j - 28) = true ∧ all.testBit (j - 28) = true
          · rw [if_pos hc, if_pos ⟨hc.1, by omega, hc.2.2⟩]
          · rw [if_neg hc, if_neg (fun hh => hc ⟨hh.1, by omega, hh.2.2⟩)])
      refine ⟨im', o', s', Fr.tr ((Fr.rf _ im).up (by simp)) f', ?_⟩
      rw [← h', LX12_mumble_43]
      simp (decide := true) only [QX12_mumble, iR_18 hR ho, i2 l hl2, iR_94 hR ho, hlt, if_false, if_true, bitn (show t < 256 by omega) (show a < 8 by omega), bitn (show all < 256 by omega) (show a < 8 by omega), hb.1, hb.2, b32_t, ixr7 a ha7, nI_a1]
    · obtain ⟨im', o', s', f', h'⟩ := ih (a + 1) im (by omega) ho (by
        intro j hj
        rw [hs j hj]
        by_cases hc : 28 ≤ j ∧ j < 28 + a ∧ t.testBit (j - 28) = true ∧ all.testBit (j - 28) = true
        · rw [if_pos hc, if_pos ⟨hc.1, by omega, hc.2.2⟩]
        · rw [if_neg hc, if_neg (fun hh => by
            by_cases e : j = 28 + a
            · subst e
              rw [Nat.add_sub_cancel_left] at hh
              exact hb ⟨hh.2.2.1, hh.2.2.2⟩
            · exact hc ⟨hh.1, by omega, hh.2.2⟩)])
      refine ⟨im', o', s', f', ?_⟩
      rw [← h', LX12_mumble_43]
      cases h1 : t.testBit a with
      | false => simp (decide := true) only [QX12_mumble, iR_18 hR ho, i2 l hl2, iR_94 hR ho, hlt, if_false, if_true, bitn (show t < 256 by omega) (show a < 8 by omega), h1, b32_f, nI_a1]
      | true =>
        have h2 : all.testBit a = false := by
          cases h2 : all.testBit a with
          | false => rfl
          | true => exact absurd ⟨h1, h2⟩ hb
        simp (decide := true) only [QX12_mumble, iR_18 hR ho, i2 l hl2, iR_94 hR ho, hlt, if_false, if_true, bitn (show t < 256 by omega) (show a < 8 by omega), bitn (show all < 256 by omega) (show a < 8 by omega), h1, h2, b32_t, b32_f, nI_a1]
theorem mu_fall (hR : iRoll B l nm nk nj ns) (hr : rRel (B 22) (B 116) nm nk ns) {m : Nat} (hm : m < nk) {X : gm_I} (oX : Off B X) {t : Nat} (hX : muR B X (gM (cSpk B (nI m)) nm) t nm) : mFall B X l nm nj (nI m) 0 = muF B nj nm m t ∧ rOk (X 117) nm ns := by
  have hm7 := iR_nm hR
  have hk5 := iR_nk hR
  have g : ∀ j, j < 80 → (j < 28 ∨ 35 ≤ j) → X 117 j = B 116 j := fun j hj hc => by
    rw [hX j hj, if_neg (by omega)]
  constructor
  · apply mFall_v 0
    · intro a ha
      unfold mSpk cSpk
      rw [g (21 + a) (by omega) (by omega), (rR_top hr ha).1]
    · intro a ha hf
      rw [slip0 0 rfl]
      refine (mV_cVx hR oX hr ha (g a (by omega) (by omega)) (g _ (by omega) (by omega)) (g _ (by omega) (by omega)) (g _ (by omega) (by omega)) (g _ (by omega) (by omega)) (g _ (by omega) (by omega)) (X 117 (28 + a)) 0).tr ?_
      have h28 := hX (28 + a) (by omega)
      have hall : (gM (cSpk B (nI m)) nm).testBit a = true := by rw [gM_in _ ha]; exact hf
      have hsp := spk_ne hk5 hr hm ha hf
      unfold muV
      by_cases hb : t.testBit a = true
      · rw [if_pos ⟨by omega, by omega, by rw [Nat.add_sub_cancel_left]; exact hb, by rw [Nat.add_sub_cancel_left]; exact hall⟩] at h28
        rw [if_pos hb, h28]
        intro i i1 i2
        have := dV_cV B a i i1 i2
        unfold upd
        by_cases e6 : i = 6
        · subst e6; simp [dV, upd, cV]
        · by_cases e5 : i = 5
          · subst e5; simp
          · simp [e5, e6, this]
      · rw [if_neg (fun hh => by rw [Nat.add_sub_cancel_left] at hh; exact hb hh.2.2.1)] at h28
        rw [if_neg hb, h28]
        have h5 : B 116 (28 + a) = cV B a 5 := by
          rcases rR_man hr ha with ⟨e, -⟩ | ⟨-, e, -⟩
          · exact absurd e hsp
          · simp [cV, e]
        refine vEq.tr ?_ (dV_cV B a).sy
        intro i _ _
        unfold upd
        by_cases e6 : i = 6
        · subst e6; simp [cV]
        · by_cases e5 : i = 5
          · subst e5; simp [h5]
          · simp [e5, e6]
  · have hok := rRel_ok (iR_ns hR) hr
    refine ⟨fun a ha => ?_, fun a ha => ?_⟩
    · rw [g a (by omega) (by omega), g (7 + a) (by omega) (by omega)]; exact hok.1 a ha
    · rw [g (49 + a) (by omega) (by omega), g (56 + a) (by omega) (by omega)]; exact hok.2 a ha
theorem M_mu_loop (hR : iRoll B l nm nk nj ns) (hr : rRel (B 22) (B 116) nm nk ns) {m : Nat} (hm : m < nk) (x2 : Int32) (lm : gm_L) : ∀ (w t : Nat) (im : gm_I) (x5 : Value), t + w = 128 → Off B im → (∀ s, s < t → im 122 s = eO (muF B nj nm m s)) → x5.category = 1 → ∃ im' x5', x5'.category = 1 ∧ Off B im' ∧ (∀ s, s < 128 → im' 122 s = eO (muF B nj nm m s)) ∧ gm_den 254 28 [.ref 84, .int (nI m), .int x2, .int (nI (gM (cSpk B (nI m)) nm)), .int (nI t), x5] [] 128 gm_RF im lm = gm_den 254 114 [.ref 84, .int (nI m), .int x2, .int (nI (gM (cSpk B (nI m)) nm)), .int (nI 128), x5'] [] 128 gm_RF im' lm := by
  have hm7 := iR_nm hR
  have hM := gM_128 (cSpk B (nI m)) hm7
  intro w
  induction w with
  | zero =>
    intro t im x5 hw ho hs c5
    have : t = 128 := by omega
    subst this
    refine ⟨im, x5, c5, ho, hs, ?_⟩
    rw [LX12_mumble_28]
    simp (decide := true) only [QX12_mumble, if_true]
  | succ w ih =>
    intro t im x5 hw ho hs c5
    have ht : t < 128 := by omega
    have hlt : ¬ (128 : Int32) ≤ nI t := nI_ge (b := 128) ht (by decide)
    obtain ⟨jm1, c1, p1, r1, -, f1⟩ := M_copies hR ho lm
    obtain ⟨jm2, p2, s2, f2, h2⟩ := M_mu_in hR (nI m) x2 hM ht lm nm 0 jm1 (by omega) p1 (fun j hj => by rw [if_neg (by omega)]; exact r1 j hj)
    obtain ⟨hf, hok⟩ := mu_fall (nj := nj) hR hr hm p2 s2
    obtain ⟨jm3, h3, n3, -⟩ := M_fallsTo hR p2 hok (nI m) 0 (by decide) lm
    rw [hf] at h3
    rw [show (nI 0 : Int32) = 0 from rfl] at h3
    have e122 : jm3 122 = im 122 := by rw [n3.1 122 (by decide) (by decide) (by decide) (by decide) (by decide), f2 122 (by decide), f1 122 (by decide)]
    obtain ⟨im', x5', c5', o', s', h'⟩ := ih (t + 1) (gm_up jm3 122 t (eO (muF B nj nm m t))) (.int (nI nm)) (by omega) ((p2.tr n3.off).up rfl (by decide)) (by
      intro s hs2
      by_cases e : s = t
      · subst e; rw [gu_eq]
      · rw [gu_nk e, e122]; exact hs s (by omega)) rfl
    refine ⟨im', x5', c5', o', s', ?_⟩
    rw [← h', LX12_mumble_28]
    simp (decide := true) only [QX12_mumble, hlt, if_false, c1, gm_cont_v, gm_cat_i, c5]
    rw [show (0 : Int32) = nI 0 from rfl, h2]
    simp only [QX12_mumble]
    rw [h3]
    simp only [QX12_mumble, gm_cont_i, i128 t ht, if_true, nI_a1]
theorem sdN_ok (hr : rRel (B 22) (B 116) nm nk ns) (hns : ns = 2 ∨ ns = 3) {a : Nat} (ha : a < nm) : B 116 a = nI (sdN B a) ∧ sdN B a < ns := by
  obtain ⟨q, hq, eq⟩ := (rR_side hr ha).2
  have : sdN B a = q := by unfold sdN; rw [(rR_side hr ha).1, eq, nI_clamp (by omega)]
  rw [this]; exact ⟨eq, hq⟩
theorem ixwo2 (l m s : Nat) (hl : l < 2) (hm : m < 5) (hs : s < 3) : gm_in (3 * (5 * nI l + nI m) + nI s) 30 = true ∧ (3 * (5 * nI l + nI m) + nI s).toNatClampNeg = 3 * (5 * l + m) + s := by
  apply ix_nat
  · rw [show (5 : Int32) = nI 5 from rfl, show (3 : Int32) = nI 3 from rfl, nI_mul, nI_add, nI_mul, nI_add]
  · omega
  · decide
def hasV (B : gm_I) (nj nm m a t : Nat) : Int32 := if eO (muF B nj nm m t) = nI (sdN B a) then B 13 (3 * m + sdN B a) else 0
theorem M_hasBy {im : gm_I} (hR : iRoll B l nm nk nj ns) (hr : rRel (B 22) (B 116) nm nk ns) {m : Nat} (hm : m < nk) (ho : Off B im) (h117 : ∀ j, j < 80 → im 117 j = B 116 j) (h122 : ∀ s, s < 128 → im 122 s = eO (muF B nj nm m s)) {a : Nat} (ha : a < nm) {t : Nat} (ht : t < 128) (lm : gm_L) : gm_den 252 0 [.ref 84, .int (nI m), .int (nI a), .int (nI t)] [] 128 gm_RF im lm = some (some (.int (hasV B nj nm m a t)), 128, gm_RF, im, lm) := by
  have hm7 := iR_nm hR
  have hk5 := iR_nk hR
  have hl2 := iR_l hR
  have hns := iR_ns hR
  obtain ⟨s1, s2⟩ := sdN_ok hr hns ha
  have ea : im 117 a = nI (sdN B a) := by rw [h117 a (by omega)]; exact s1
  have hii : gm_in (nI a) 80 = true ∧ (nI a).toNatClampNeg = a := ⟨gm_in_nI (by omega) (by decide), nI_clamp (by omega)⟩
  have h100 : im 100 (3 * (5 * l + m) + sdN B a) = B 13 (3 * m + sdN B a) := by rw [ho.1 100 rfl]; exact (iR_wo hR hm (by omega)).1
  unfold hasV
  by_cases hc : eO (muF B nj nm m t) = nI (sdN B a)
  · rw [if_pos hc]
    simp (decide := true) only [QX12_hasBy, i128 t ht, h122 t ht, hii, ea, hc, if_true, if_false, iR_18 hR ho, ixwo2 l m (sdN B a) hl2 (show m < 5 by omega) (show sdN B a < 3 by omega), h100]
  · rw [if_neg hc]
    simp (decide := true) only [QX12_hasBy, i128 t ht, h122 t ht, hii, ea, hc, if_true, if_false]
theorem M_res_loop {im : gm_I} (hR : iRoll B l nm nk nj ns) (hr : rRel (B 22) (B 116) nm nk ns) {m : Nat} (hm : m < nk) (ho : Off B im) (h117 : ∀ j, j < 80 → im 117 j = B 116 j) (h122 : ∀ s, s < 128 → im 122 s = eO (muF B nj nm m s)) {t : Nat} (ht : t < 128) (lm : gm_L) : ∀ (w a : Nat), a + w = nm → gm_den 253 3 [.ref 84, .int (nI m), .int (nI t), .int (nI (gM (cSpk B (nI m)) nm)), .int (nI a)] [] 128 gm_RF im lm = some (some (.int (b32 (allR (fun a => !(cSpk B (nI m) a && (decide (¬ eO (muF B nj nm m t) = nI (sdN B a)) && decide (eO (muF B nj nm m (t ^^^ 2 ^ a)) = nI (sdN B a)) && decide (¬ B 13 (3 * m + sdN B a) ≤ 0)))) a w))), 128, gm_RF, im, lm) := by
  have hm7 := iR_nm hR
  have hk5 := iR_nk hR
  have hl2 := iR_l hR
  have hns := iR_ns hR
  have hM := gM_128 (cSpk B (nI m)) hm7
  intro w
  induction w with
  | zero =>
    intro a hw
    have : a = nm := by omega
    subst this
    rw [LX12_isResting_3]
    simp only [QX12_isResting, iR_18 hR ho, i2 l hl2, iR_94 hR ho, nI_le (Nat.le_refl a) (show a < 2 ^ 31 by omega), if_true, allR]
    rfl
  | succ w ih =>
    intro a hw
    have ih1 := ih (a + 1) (by omega)
    have ha : a < nm := by omega
    have hlt : ¬ nI nm ≤ nI a := nI_ge (by omega) (by omega)
    have hbit : (gM (cSpk B (nI m)) nm).testBit a = cSpk B (nI m) a := gM_in _ ha
    rw [LX12_isResting_3]
    simp only [allR]
    cases hf : cSpk B (nI m) a with
    | false =>
      rw [hf] at hbit
      simp (decide := true) only [QX12_isResting, iR_18 hR ho, i2 l hl2, iR_94 hR ho, hlt, if_false, if_true, bitn (show gM (cSpk B (nI m)) nm < 256 by omega) (show a < 8 by omega), hbit, b32_f, nI_a1, ih1]
      simp
    | true =>
      rw [hf] at hbit
      have hxl : t ^^^ 2 ^ a < 128 := Nat.xor_lt_two_pow (n := 7) ht (by
        have : 2 ^ a ≤ 2 ^ 6 := Nat.pow_le_pow_right (by decide) (by omega)
        omega)
      have hx := xorn ht (show a < 7 by omega)
      have hb1 := M_hasBy hR hr hm ho h117 h122 ha hxl lm
      have hb2 := M_hasBy hR hr hm ho h117 h122 ha ht lm
      obtain ⟨q, hq, eq⟩ := (iR_wo hR hm (show sdN B a < 3 by have := (sdN_ok hr hns ha).2; omega)).2
      have key : (hasV B nj nm m a (t ^^^ 2 ^ a) ≤ hasV B nj nm m a t) ↔ (!(decide (¬ eO (muF B nj nm m t) = nI (sdN B a)) && decide (eO (muF B nj nm m (t ^^^ 2 ^ a)) = nI (sdN B a)) && decide (¬ B 13 (3 * m + sdN B a) ≤ 0))) = true := by
        unfold hasV
        rw [eq]
        have h0 : (0 : Int32) ≤ nI q := nI_le (a := 0) (Nat.zero_le _) (by omega)
        by_cases k1 : eO (muF B nj nm m (t ^^^ 2 ^ a)) = nI (sdN B a)
        · by_cases k2 : eO (muF B nj nm m t) = nI (sdN B a)
          · simp [k1, k2]
          · simp [k1, k2]
        · by_cases k2 : eO (muF B nj nm m t) = nI (sdN B a)
          · simp [k1, k2, h0]
          · simp [k1, k2]
      cases hk : (!(decide (¬ eO (muF B nj nm m t) = nI (sdN B a)) && decide (eO (muF B nj nm m (t ^^^ 2 ^ a)) = nI (sdN B a)) && decide (¬ B 13 (3 * m + sdN B a) ≤ 0))) with
      | true =>
        have hle := key.mpr hk
        rw [Bool.true_and, hk, Bool.true_and]
        simp (decide := true) only [QX12_isResting, iR_18 hR ho, i2 l hl2, iR_94 hR ho, hlt, if_false, if_true, bitn (show gM (cSpk B (nI m)) nm < 256 by omega) (show a < 8 by omega), hbit, b32_t, hx, hb1, hb2, gm_cont_i, hle, nI_a1]
        exact ih1
      | false =>
        have hle : ¬ hasV B nj nm m a (t ^^^ 2 ^ a) ≤ hasV B nj nm m a t := fun h => by rw [key.mp h] at hk; cases hk
        rw [Bool.true_and, hk, Bool.false_and]
        simp (decide := true) only [QX12_isResting, iR_18 hR ho, i2 l hl2, iR_94 hR ho, hlt, if_false, if_true, bitn (show gM (cSpk B (nI m)) nm < 256 by omega) (show a < 8 by omega), hbit, b32_t, hx, hb1, hb2, gm_cont_i, hle]
        rfl
theorem allR_pre (p : Nat → Bool) (n : Nat) : allR p 0 n = preR p n := by
  rw [Bool.eq_iff_iff, allR_iff, preR_iff]
  constructor
  · intro h k hk; exact h k (Nat.zero_le _) (by omega)
  · intro h k _ hk; exact h k (by omega)
theorem M_isResting {im : gm_I} (hR : iRoll B l nm nk nj ns) (hr : rRel (B 22) (B 116) nm nk ns) {m : Nat} (hm : m < nk) (ho : Off B im) (h117 : ∀ j, j < 80 → im 117 j = B 116 j) (h122 : ∀ s, s < 128 → im 122 s = eO (muF B nj nm m s)) {t : Nat} (ht : t < 128) (lm : gm_L) : gm_den 253 0 [.ref 84, .int (nI m), .int (nI t), .int (nI (gM (cSpk B (nI m)) nm)), .null] [] 128 gm_RF im lm = some (some (.int (b32 (muK B nj nm m t))), 128, gm_RF, im, lm) := by
  have h := M_res_loop hR hr hm ho h117 h122 ht lm nm 0 (by omega)
  rw [allR_pre] at h
  have n1 : Value.category .null = 1 := rfl
  simp only [QX12_isResting, gm_cat_i, n1]
  exact h
theorem M_mu2_loop {im : gm_I} (hR : iRoll B l nm nk nj ns) (hr : rRel (B 22) (B 116) nm nk ns) {m : Nat} (hm : m < nk) (ho : Off B im) (h117 : ∀ j, j < 80 → im 117 j = B 116 j) (h122 : ∀ s, s < 128 → im 122 s = eO (muF B nj nm m s)) (i : Int32) (lm : gm_L) : ∀ (w s fd : Nat), s + w = 128 → fd ≤ s → gm_den 254 124 [.ref 84, .int (nI m), .int i, .int (nI (gM (cSpk B (nI m)) nm)), .int (nI fd), .int (nI s)] [] 128 gm_RF im lm = some (some (.int (srch (fun s => (s &&& gM (cSpk B (nI m)) nm == s) && muK B nj nm m s) (fun s => nI s) i fd s w)), 128, gm_RF, im, lm) := by
  have hm7 := iR_nm hR
  have hM := gM_128 (cSpk B (nI m)) hm7
  intro w
  induction w with
  | zero =>
    intro s fd hw hf
    have : s = 128 := by omega
    subst this
    rw [LX12_mumble_124]
    simp only [srch]
    by_cases hi : i = -1
    · simp (decide := true) only [QX12_mumble, if_true, if_false, hi]
    · simp (decide := true) only [QX12_mumble, if_true, if_false, hi]
  | succ w ih =>
    intro s fd hw hf
    have hs : s < 128 := by omega
    have hlt : ¬ (128 : Int32) ≤ nI s := nI_ge (b := 128) hs (by decide)
    have hsub := subn hs hM
    have hres := M_isResting hR hr hm ho h117 h122 hs lm
    have ih0 := ih (s + 1) fd (by omega) (by omega)
    have ih1 := ih (s + 1) (fd + 1) (by omega) (by omega)
    rw [LX12_mumble_124]
    simp only [srch]
    cases hc : (s &&& gM (cSpk B (nI m)) nm == s) with
    | false =>
      have hz : ¬ (nI s &&& (nI (gM (cSpk B (nI m)) nm) ^^^ -1) = 0) := fun h => by rw [hsub.mp h] at hc; cases hc
      simp (decide := true) only [QX12_mumble, hlt, if_true, if_false, hz, nI_a1, ih0, Bool.false_and, Bool.false_eq_true]
    | true =>
      have hz := hsub.mpr hc
      cases hk : muK B nj nm m s with
      | false =>
        rw [hk] at hres
        simp (decide := true) only [QX12_mumble, hlt, if_true, if_false, hz, hres, gm_cont_i, b32_f, nI_a1, ih0, Bool.and_false, Bool.false_eq_true]
      | true =>
        rw [hk] at hres
        by_cases hi : nI fd = i
        · simp (decide := true) only [QX12_mumble, hlt, if_true, if_false, hz, hres, gm_cont_i, b32_t, hi, Bool.and_self]
        · simp (decide := true) only [QX12_mumble, hlt, if_true, if_false, hz, hres, gm_cont_i, b32_t, hi, Bool.and_self, nI_a1, ih1]
end
theorem A_mumble (m i : Int32) : Agr 129 254 [.ref 0, .int m, .int i] [.ref 84, .int m, .int i, .null, .null, .null] := by
  refine agrQ ?_
  intro B lm l nm nk nj ns hI
  obtain ⟨hR, hr, -⟩ := hI
  have hm7 := iR_nm hR
  have hn8 := iR_nj hR
  have hk5 := iR_nk hR
  have hns := iR_ns hR
  have n1 : Value.category .null = 1 := rfl
  cases hg : okI nk m with
  | false =>
    refine ⟨-1, ⟨B, lm, ?_, Off.rf B, LK.rf lm⟩, fun im lm1 ho hk => ⟨im, lm1, ?_, ho, hk⟩⟩
    · simp (decide := true) only [QX11_mumble, Cg_mot hR (Off.rf B), hg, b32_f, gm_cont_i, if_true, if_false]
    · simp (decide := true) only [QX12_mumble, Mg_mot hR ho, hg, b32_f, gm_cont_i, if_true, if_false]
  | true =>
    by_cases hi : i < -1
    · refine ⟨-1, ⟨B, lm, ?_, Off.rf B, LK.rf lm⟩, fun im lm1 ho hk => ⟨im, lm1, ?_, ho, hk⟩⟩
      · simp (decide := true) only [QX11_mumble, Cg_mot hR (Off.rf B), hg, b32_t, gm_cont_i, if_true, if_false, Int32.not_le.mpr hi]
      · simp (decide := true) only [QX12_mumble, Mg_mot hR ho, hg, b32_t, gm_cont_i, if_true, if_false, Int32.not_le.mpr hi]
    · have hi2 := Int32.not_lt.mp hi
      obtain ⟨j, hj, rfl⟩ := okI_t (by omega) hg
      obtain ⟨im1, lm1, h1, o1, d1, e1, f1⟩ := C_gatherD hR (Off.rf B) (nI j) lm
      have hpk : ∀ a, a < nm → cSpk B (nI j) a = true → pOk (dV B (B 22 75) a) := fun a ha _ => pOk_eq (dV_cV B a 4 (by decide) (by decide)) (cV_pOk hR hr ha)
      have hsd : sdOk B nm := fun a ha => by
        obtain ⟨s1, s2⟩ := sdN_ok hr hns ha
        rw [(rR_side hr ha).1, s1]
        have hc : sdN B a < 3 := by omega
        exact ⟨rfl, hc⟩
      obtain ⟨im2, lm2, h2, o2, f2⟩ := C_rest hR o1 (show j < 5 by omega) hsd d1 lm1 (dV B (B 22 75)) e1 hpk (fun a ha hf => pOk_eq (by simp [upd]; rfl) (hpk a ha hf)) i
      have hsame : srch (fun s => allR (rsP B (cSpk B (nI j)) nm j (fun s => vFall B nj (cSpk B (nI j)) nm (fun a => if s.testBit (gc (cSpk B (nI j)) a) then upd (upd (cV B a) 8 (B 22 75)) 5 1 else dV B (B 22 75) a)) s) 0 (gc (cSpk B (nI j)) nm)) (fun s => nI (spr (cSpk B (nI j)) nm s)) i 0 0 (2 ^ gc (cSpk B (nI j)) nm) = srch (fun s => (s &&& gM (cSpk B (nI j)) nm == s) && muK B nj nm j s) (fun s => nI s) i 0 0 128 := by
        rw [← set_srch (cSpk B (nI j)) hm7 (muK B nj nm j) i]
        exact srch_ext _ 0 0 (fun s _ _ => ⟨mu_same hm7 s, fun _ => rfl⟩)
      rw [hsame] at h2
      refine ⟨srch (fun s => (s &&& gM (cSpk B (nI j)) nm == s) && muK B nj nm j s) (fun s => nI s) i 0 0 128, ⟨im2, lm2, ?_, o2, ((f1.mo (K := [73, 74, 75]) (by decide)).tr (f2.mo (by decide))).lk (by decide) (by decide)⟩, fun im lmx ho hk => ?_⟩
      · simp (decide := true) only [QX11_mumble, Cg_mot hR (Off.rf B), hg, b32_t, gm_cont_i, gm_cont_v, if_true, if_false, hi2, dayB (Off.rf B), h1, h2]
      · obtain ⟨jm1, c1, p1, r1, -, -⟩ := M_copies hR ho lmx
        obtain ⟨jm2, x5', c5', p2, s2, h3⟩ := M_mu_loop (nj := nj) hR hr hj i lmx 128 0 jm1 .null (by omega) p1 (fun s hs => by omega) rfl
        obtain ⟨jm3, c3, p3, r3, -, f3⟩ := M_copies hR p2 lmx
        have h4 := M_mu2_loop hR hr hj p3 r3 (fun s hs => by rw [f3 122 (by decide)]; exact s2 s hs) i lmx 128 0 0 (by omega) (Nat.le_refl _)
        refine ⟨jm3, lmx, ?_, p3, hk⟩
        rw [← h4]
        have e0 : gm_den 254 0 [.ref 84, .int (nI j), .int i, .null, .null, .null] [] 128 gm_RF im lmx = gm_den 254 28 [.ref 84, .int (nI j), .int i, .int (nI (gM (cSpk B (nI j)) nm)), .int (nI 0), .null] [] 128 gm_RF jm1 lmx := by
          simp (decide := true) only [QX12_mumble, Mg_mot hR ho, hg, b32_t, gm_cont_i, gm_cont_v, if_true, if_false, hi2, c1, M_speakers hR p1, sp_eq hm7 hr r1, gm_cat_i, n1]
          rfl
        rw [e0, h3]
        simp (decide := true) only [QX12_mumble, c3, gm_cont_v, gm_cat_i, c5']
        rfl
