/-! the sense of a text, as the program finds it -/
theorem i64_lt {a b : Nat} (ha : a < 2 ^ 63) (hb : b < 2 ^ 63) : Int64.ofNat a < Int64.ofNat b ↔ a < b := by
  rw [Int64.lt_iff_toInt_lt, Int64.toInt_ofNat_of_lt ha, Int64.toInt_ofNat_of_lt hb]
  omega
theorem nI_i64 {a : Nat} (h : a < 2 ^ 31) : (nI a).toInt64 = Int64.ofNat a := by
  apply Int64.toInt_inj.mp
  rw [Int32.toInt_toInt64, nI_toInt h, Int64.toInt_ofNat_of_lt (by omega)]
theorem i64_i32 {a : Nat} (h : a < 2 ^ 31) : (Int64.ofNat a).toInt32 = nI a := by
  apply Int32.toBitVec_inj.mp
  show (BitVec.ofNat 64 a).signExtend 32 = BitVec.ofNat 32 a
  apply BitVec.eq_of_toNat_eq
  rw [BitVec.signExtend_eq_setWidth_of_le _ (by decide), BitVec.toNat_setWidth, BitVec.toNat_ofNat, BitVec.toNat_ofNat, Nat.mod_eq_of_lt (by omega : a < 2 ^ 64)]
section
variable {im : gm_I} {lm : gm_L} {K V P : Nat → Nat} {N : Nat}
theorem C_kindAt (h : tokR im lm K V P N) (h4 : N ≤ 400) {x : Nat} (hx : x < N) : gm_den 103 0 [.ref 7, .int (nI x)] [] 128 gm_RF im lm = some (some (.int (nI (K x))), 128, gm_RF, im, lm) := by
  obtain ⟨h1, h2⟩ := h
  have c0 : ¬ nI x < 0 := nI_pos (by omega)
  have c1 : ¬ nI N ≤ nI x := nI_ge hx (by omega)
  have c2 : gm_in (nI x) 400 = true := gm_in_nI (by omega) (by decide)
  have c3 : (nI x).toNatClampNeg = x := nI_clamp (by omega)
  simp (decide := true) only [QX10_kindAt, c0, h1, c1, c2, c3, (h2 x hx).1, if_true, if_false]
theorem C_valueAt (h : tokR im lm K V P N) (h4 : N ≤ 400) {x : Nat} (hx : x < N) : gm_den 104 0 [.ref 7, .int (nI x)] [] 128 gm_RF im lm = some (some (.long (Int64.ofNat (V x))), 128, gm_RF, im, lm) := by
  obtain ⟨h1, h2⟩ := h
  have c0 : ¬ nI x < 0 := nI_pos (by omega)
  have c1 : ¬ nI N ≤ nI x := nI_ge hx (by omega)
  have c2 : gm_in (nI x) 400 = true := gm_in_nI (by omega) (by decide)
  have c3 : (nI x).toNatClampNeg = x := nI_clamp (by omega)
  simp (decide := true) only [QX10_valueAt, c0, h1, c1, c2, c3, (h2 x hx).2.2, if_true, if_false]
theorem C_placeAt (h : tokR im lm K V P N) (h4 : N ≤ 400) {x : Nat} (hx : x < N) : gm_den 105 0 [.ref 7, .int (nI x)] [] 128 gm_RF im lm = some (some (.int (nI (P x))), 128, gm_RF, im, lm) := by
  obtain ⟨h1, h2⟩ := h
  have c0 : ¬ nI x < 0 := nI_pos (by omega)
  have c1 : ¬ nI N ≤ nI x := nI_ge hx (by omega)
  have c2 : gm_in (nI x) 400 = true := gm_in_nI (by omega) (by decide)
  have c3 : (nI x).toNatClampNeg = x := nI_clamp (by omega)
  simp (decide := true) only [QX10_placeAt, c0, h1, c1, c2, c3, (h2 x hx).2.1, if_true, if_false]
theorem C_tellAt (h : tokR im lm K V P N) (h4 : N ≤ 400) (hK : ∀ t, K t < 148) {x : Nat} (hx : x < N) : gm_den 106 0 [.ref 7, .int (nI x)] [] 128 gm_RF im lm = some (some (.int (cond (tS K x) (nI (K x) - 128) (-1))), 128, gm_RF, im, lm) := by
  by_cases h0 : x = 0
  · subst h0
    have e : tS K 0 = true := rfl
    have ek := C_kindAt h h4 hx
    have z0 : nI 0 = 0 := rfl
    rw [z0] at ek
    rw [e, z0]
    simp (decide := true) only [QX10_tellAt, if_true, ek, gm_cont_i, cond_true]
  · have c0 : ¬ nI x = 0 := nI_ne0 (by omega) (by omega)
    have c1 : nI x - 1 = nI (x - 1) := nI_m1 (by omega)
    have ek := C_kindAt h h4 hx
    have ek1 := C_kindAt h h4 (x := x - 1) (by omega)
    by_cases hk : K (x - 1) = 59
    · have e : tS K x = true := by unfold tS; simp [hk]
      have c2 : nI (K (x - 1)) = 59 := by rw [hk]; rfl
      rw [e]
      simp (decide := true) only [QX10_tellAt, c0, c1, c2, if_false, if_true, ek, ek1, gm_cont_i, cond_true, not_true_eq_false]
    · have e : tS K x = false := by unfold tS; simp [h0, hk]
      have c2 : ¬ nI (K (x - 1)) = 59 := fun hh => hk ((nK_eq (by have := hK (x - 1); omega) (by decide)).mp hh)
      rw [e]
      simp (decide := true) only [QX10_tellAt, c0, c1, c2, if_false, if_true, ek1, gm_cont_i, cond_false, not_false_eq_true]
theorem C_twice (h : tokR im lm K V P N) (h4 : N ≤ 400) (hK : ∀ t, K t < 148) (hV : ∀ t, V t < 2 ^ 63) {x : Nat} (hx : x < N) : ∀ w i : Nat, i + w = x → twc K V x i = false → gm_den 107 2 [.ref 7, .int (nI x), .int (nI i)] [] 128 gm_RF im lm = some (some (.int (b32 (twc K V x x))), 128, gm_RF, im, lm) := by
  have hv := C_valueAt h h4 hx
  obtain ⟨h1, h2⟩ := h
  intro w
  induction w with
  | zero =>
    intro i hi ht
    have : i = x := by omega
    subst this
    have c : nI i ≤ nI i := Int32.le_refl _
    rw [ht, LX10_isNameTwice_2]
    simp (decide := true) only [QX10_isNameTwice, c, if_true]; rfl
  | succ w ih =>
    intro i hi ht
    have c1 : ¬ nI x ≤ nI i := nI_ge (by omega) (by omega)
    have c2 : ¬ nI N ≤ nI i := nI_ge (by omega) (by omega)
    have c3 : gm_in (nI i) 400 = true := gm_in_nI (by omega) (by decide)
    have c4 : (nI i).toNatClampNeg = i := nI_clamp (by omega)
    obtain ⟨k1, -, k3⟩ := h2 i (by omega)
    have hstep : twc K V x (i + 1) = (K i == 1 && V i == V x) := by show (twc K V x i || _) = _; rw [ht]; rfl
    by_cases e1 : K i = 1
    · have c5 : nI (K i) = 1 := by rw [e1]; rfl
      by_cases e2 : V i = V x
      · have c6 : lg_cmp (Int64.ofNat (V i)) (Int64.ofNat (V x)) = 0 := by rw [lg_cmp_eq, e2]
        have ht1 : twc K V x x = true := by
          have hq : twc K V x (i + 1) = true := by rw [hstep]; simp [e1, e2]
          have := twc_mono (d := x - (i + 1)) hq
          rw [show i + 1 + (x - (i + 1)) = x by omega] at this
          exact this
        rw [ht1, LX10_isNameTwice_2]
        simp (decide := true) only [QX10_isNameTwice, h1, c1, c2, c3, c4, k1, c5, k3, hv, gm_cont_l, c6, if_true, if_false, not_true_eq_false]; rfl
      · have c6 : ¬ lg_cmp (Int64.ofNat (V i)) (Int64.ofNat (V x)) = 0 := by
          rw [lg_cmp_eq]
          intro hh
          exact e2 (i64_inj (hV i) (hV x) hh)
        rw [← ih (i + 1) (by omega) (by rw [hstep]; simp [e2]), LX10_isNameTwice_2]
        simp (decide := true) only [QX10_isNameTwice, h1, c1, c2, c3, c4, k1, c5, k3, hv, gm_cont_l, c6, if_true, if_false, not_true_eq_false, not_false_eq_true, nI_a1]
    · have c5 : ¬ nI (K i) = 1 := fun hh => e1 ((nK_eq (by have := hK i; omega) (by decide)).mp hh)
      rw [← ih (i + 1) (by omega) (by rw [hstep]; simp [e1]), LX10_isNameTwice_2]
      simp (decide := true) only [QX10_isNameTwice, h1, c1, c2, c3, c4, k1, c5, if_true, if_false, not_false_eq_true, nI_a1]
/-- the memory that a fault of a tell leaves -/
def sfM (im : gm_I) (P : Nat → Nat) (r : Nat × Nat) : gm_I := if r.1 = 0 then im else gm_up im 2 3 (nI (P r.2))
theorem C_tell_loop (h : tokR im lm K V P N) (h4 : N ≤ 400) (hst : stR im) (hV : ∀ t, V t < 2 ^ 63) (x1 : Int32) {s fi : Nat} (hs : s < 5) (hfi : fi + gIn s < N) : ∀ w i : Nat, ∀ x5 x6 : Value, i + w = gIn s → gm_den 55 50 [.ref 2, .int x1, .int (nI s), .int (nI fi), .int (nI i), x5, x6] [] 128 gm_RF im lm = some (some (.int (nI (rgS V s fi w i).1)), 128, gm_RF, sfM im P (rgS V s fi w i), lm) := by
  have g4 := gIn_le s
  have q0 : gm_in (nI s) 5 = true := gm_in_nI hs (by decide)
  have q1 : (nI s).toNatClampNeg = s := nI_clamp (by omega)
  have q2 := stR_3 hst hs
  intro w
  induction w with
  | zero =>
    intro i x5 x6 hi
    have c : nI (gIn s) ≤ nI i := nI_le (by omega) (by omega)
    rw [LX4_faultOfTell_50]
    simp (decide := true) only [QX4_faultOfTell, q0, q1, q2, c, if_true, rgS, sfM]; rfl
  | succ w ih =>
    intro i x5 x6 hi
    have c : ¬ nI (gIn s) ≤ nI i := nI_ge (by omega) (by omega)
    have e1 : nI fi + nI i = nI (fi + i) := nI_add fi i
    have hv := C_valueAt h h4 (x := fi + i) (by omega)
    have hp := C_placeAt h h4 (x := fi + i) (by omega)
    have e2 : nI s * 4 + nI i = nI (s * 4 + i) := by rw [show (4 : Int32) = nI 4 from rfl, nI_mul, nI_add]
    have e3 : gm_in (nI (s * 4 + i)) 20 = true := gm_in_nI (by omega) (by decide)
    have e4 : (nI (s * 4 + i)).toNatClampNeg = s * 4 + i := nI_clamp (by omega)
    obtain ⟨t1, t2⟩ := stR_4 hst hs (i := i) (by omega)
    have hlo : gLo s i ≤ 2 := by unfold gLo; split; decide; split <;> decide
    have hhi : gHi s i ≤ 9999 := by unfold gHi; split; decide; split; split; decide; split; decide; split <;> decide; split; decide; split <;> decide
    have t3 : (nI (gLo s i)).toInt64 = Int64.ofNat (gLo s i) := nI_i64 (by omega)
    have t4 : (nI (gHi s i)).toInt64 = Int64.ofNat (gHi s i) := nI_i64 (by omega)
    have hVi := hV (fi + i)
    by_cases b1 : V (fi + i) < gLo s i
    · have d1 : lg_cmp (Int64.ofNat (V (fi + i))) (Int64.ofNat (gLo s i)) < 0 := by rw [lg_cmp_lt, i64_lt hVi (by omega)]; exact b1
      have er : rgS V s fi (w + 1) i = (5, fi + i) := by simp only [rgS]; rw [if_pos (Or.inl b1)]
      rw [er, LX4_faultOfTell_50]
      simp (decide := true) only [QX4_faultOfTell, q0, q1, q2, c, if_true, if_false, e1, e2, e3, e4, hv, hp, gm_cont_l, gm_cont_i, t1, t3, d1, sfM]; rfl
    · have d1 : ¬ lg_cmp (Int64.ofNat (V (fi + i))) (Int64.ofNat (gLo s i)) < 0 := by rw [lg_cmp_lt, i64_lt hVi (by omega)]; exact b1
      by_cases b2 : gHi s i < V (fi + i)
      · have d2 : ¬ lg_cmp (Int64.ofNat (V (fi + i))) (Int64.ofNat (gHi s i)) ≤ 0 := by
          rw [lg_cmp_le, Int64.not_le, i64_lt (by omega) hVi]; exact b2
        have er : rgS V s fi (w + 1) i = (5, fi + i) := by simp only [rgS]; rw [if_pos (Or.inr b2)]
        rw [er, LX4_faultOfTell_50]
        simp (decide := true) only [QX4_faultOfTell, q0, q1, q2, c, if_true, if_false, e1, e2, e3, e4, hv, hp, gm_cont_l, gm_cont_i, t1, t2, t3, t4, d1, d2, sfM]; rfl
      · have d2 : lg_cmp (Int64.ofNat (V (fi + i))) (Int64.ofNat (gHi s i)) ≤ 0 := by
          rw [lg_cmp_le]
          apply Int64.not_lt.mp
          rw [i64_lt (by omega) hVi]; exact b2
        have er : rgS V s fi (w + 1) i = rgS V s fi w (i + 1) := by simp only [rgS]; rw [if_neg (by omega)]
        rw [er, ← ih (i + 1) (.long (Int64.ofNat (V (fi + i)))) .null (by omega), LX4_faultOfTell_50]
        simp (decide := true) only [QX4_faultOfTell, q0, q1, q2, c, if_true, if_false, e1, e2, e3, e4, hv, gm_cont_l, t1, t2, t3, t4, d1, d2, nI_a1]
theorem C_tell (h : tokR im lm K V P N) (h4 : N ≤ 400) (hst : stR im) (hK : ∀ t, K t < 148) (hV : ∀ t, V t < 2 ^ 63) {t s : Nat} (hs : s < 5) (hk : K t = 128 + s) (hfi : t + 1 + gNa s + gIn s < N) : gm_den 55 0 [.ref 2, .int (nI t), .int (nI s), .null, .null, .null, .null] [] 128 gm_RF im lm = some (some (.int (nI (sfT K V t).1)), 128, gm_RF, sfM im P (sfT K V t), lm) := by
  have n1 : Value.category .null = 1 := rfl
  have q0 : gm_in (nI s) 5 = true := gm_in_nI hs (by decide)
  have q1 : (nI s).toNatClampNeg = s := nI_clamp (by omega)
  have q2 := stR_2 hst hs
  have hloop := C_tell_loop h h4 hst hV (nI t) hs (fi := t + 1 + gNa s) hfi (gIn s) 0 .null .null (by omega)
  have e1 : nI t + 1 = nI (t + 1) := nI_a1 t
  have e2 : nI (t + 1) + nI (gNa s) = nI (t + 1 + gNa s) := nI_add _ _
  have hsf : sfT K V t = if gNa s = 1 ∧ twc K V (t + 1) (t + 1) = true then (3, t + 1) else rgS V s (t + 1 + gNa s) (gIn s) 0 := by
    unfold sfT; rw [hk, Nat.add_sub_cancel_left]
  have hg1 := gNa_le s
  by_cases hn : gNa s = 1
  · have c1 : ¬ nI (gNa s) ≤ 0 := nI_nle (by omega) (by omega)
    have htw := C_twice h h4 hK hV (x := t + 1) (by omega) (t + 1) 0 (by omega) rfl
    have htw' : gm_den 107 0 [.ref 7, .int (nI (t + 1)), .null] [] 128 gm_RF im lm = some (some (.int (b32 (twc K V (t + 1) (t + 1)))), 128, gm_RF, im, lm) := by
      rw [← htw]
      simp (decide := true) only [QX10_isNameTwice, n1, if_true]; rfl
    have hp := C_placeAt h h4 (x := t + 1) (by omega)
    cases hc : twc K V (t + 1) (t + 1) with
    | true =>
      rw [hc] at htw'
      rw [hsf, if_pos ⟨hn, hc⟩]
      simp (decide := true) only [QX4_faultOfTell, q0, q1, q2, n1, if_true, if_false, e1, e2, c1, htw', gm_cont_i, b32_t, hp, sfM]; rfl
    | false =>
      rw [hc] at htw'
      rw [hsf, if_neg (by rw [hc]; simp), ← hloop]
      simp (decide := true) only [QX4_faultOfTell, q0, q1, q2, n1, if_true, if_false, e1, e2, c1, htw', gm_cont_i, b32_f]; rfl
  · have e0 : gNa s = 0 := by omega
    have c1 : nI (gNa s) ≤ 0 := by rw [e0]; decide
    rw [hsf, if_neg (by omega), ← hloop]
    simp (decide := true) only [QX4_faultOfTell, q0, q1, q2, n1, if_true, if_false, e1, e2, c1]; rfl
/-- what is found, tell by tell -/
theorem C_sense_loop (h0 : tokR im lm K V P N) (h4 : N ≤ 400) (hst0 : stR im) (hK : ∀ t, K t < 148) (hV : ∀ t, V t < 2 ^ 63) (hV2 : ∀ t, K t = 2 → V t ≤ 9999) (hok : okT K g0 N) (hw : (gst K g0 N).w = 0) (n : Nat) : ∀ w t : Nat, ∀ x5 x6 : Value, t + w = N → (foA K V t).wk = 0 → x5.category = 1 → x6.category = 1 → ∃ im', gm_den 54 7 [.ref 2, .int (nI n), .int (nI (foA K V t).sd), .int (nI (frT K V t)), .int (nI t), x5, x6] [] 128 gm_RF im lm = some (some (.int (nI (if (foA K V N).wk = 0 then (if (foA K V N).sd ≤ frT K V N then 5 else 0) else (foA K V N).wk))), 128, gm_RF, im', lm) ∧ Fr [2] im im' ∧ im' 2 3 = nI (if (foA K V N).wk = 0 then n else P (foA K V N).wt) := by
  -- small numbers
  have hsm : ∀ t, t ≤ N → (foA K V t).sd ≤ 9999 ∧ frT K V t ≤ 9999 := by
    intro t
    induction t with
    | zero => intro _; exact ⟨(by decide : 2 ≤ 9999), Nat.zero_le _⟩
    | succ t ih =>
      intro ht
      obtain ⟨i1, i2⟩ := ih (by omega)
      have e2 : foA K V (t + 1) = cond (tS K t) (tlT K V (foA K V t) t) (foA K V t) := rfl
      have e3 : frT K V (t + 1) = cond (tS K t && (K t == 129 || K t == 131)) (max (frT K V t) (V (t + 2))) (frT K V t) := rfl
      rw [e2, e3]
      cases hs : tS K t with
      | false => exact ⟨i1, i2⟩
      | true =>
        obtain ⟨w1, w2, w3, w4, w5, w6, w7, w8, w9⟩ := tlW_n K V (foA K V t) t
        have hw0 := ((gst_J (V := V) (okT_le hok (show t ≤ N by omega))).1).mpr hs
        simp only [cond_true, Bool.true_and]
        refine ⟨?_, ?_⟩
        · unfold tlT
          by_cases k0 : K t = 128
          · rw [if_pos k0, TA_sd]
            have := fld hok hw (show t < N by omega) hw0 (s := 0) k0 (by decide)
            exact hV2 _ (this.2.2.1 0 (by decide))
          · rw [if_neg k0]
            repeat' split
            all_goals (rw [TA_sd, w4]; exact i1)
        · by_cases k1 : K t = 129
          · have := fld hok hw (show t < N by omega) hw0 (s := 1) k1 (by decide)
            have h2 := hV2 _ (this.2.2.1 0 (by decide))
            have h3 : V (t + 2) ≤ 9999 := h2
            rw [show (K t == 129 || K t == 131) = true by simp [k1]]
            simp only [cond_true]
            omega
          · by_cases k2 : K t = 131
            · have := fld hok hw (show t < N by omega) hw0 (s := 3) k2 (by decide)
              have h2 := hV2 _ (this.2.2.1 0 (by decide))
              have h3 : V (t + 2) ≤ 9999 := h2
              rw [show (K t == 129 || K t == 131) = true by simp [k2]]
              simp only [cond_true]
              omega
            · rw [show (K t == 129 || K t == 131) = false by simp [k1, k2]]
              exact i2
  intro w
  induction w with
  | zero =>
    intro t x5 x6 ht hwk c5 c6
    have : t = N := by omega
    subst this
    obtain ⟨b1, b2⟩ := hsm t (Nat.le_refl _)
    have c : nI t ≤ nI t := Int32.le_refl _
    refine ⟨gm_up im 2 3 (nI n), ?_, Fr.up1 (by decide), by rw [if_pos hwk]; exact gu_eq⟩
    rw [if_pos hwk, LX4_faultOfSense_7]
    by_cases hc : (foA K V t).sd ≤ frT K V t
    · have d : ¬ nI (frT K V t) < nI (foA K V t).sd := nI_nlt hc (by omega)
      rw [if_pos hc]
      simp (decide := true) only [QX4_faultOfSense, h0.1, c, d, if_true, if_false]; rfl
    · have d : nI (frT K V t) < nI (foA K V t).sd := nI_lt (by omega) (by omega)
      rw [if_neg hc]
      simp (decide := true) only [QX4_faultOfSense, h0.1, c, d, if_true, if_false]; rfl
  | succ w ih =>
    intro t x5 x6 ht hwk c5 c6
    have htN : t < N := by omega
    have c : ¬ nI N ≤ nI t := nI_ge htN (by omega)
    have hta := C_tellAt h0 h4 hK htN
    have e2 : foA K V (t + 1) = cond (tS K t) (tlT K V (foA K V t) t) (foA K V t) := rfl
    have e3 : frT K V (t + 1) = cond (tS K t && (K t == 129 || K t == 131)) (max (frT K V t) (V (t + 2))) (frT K V t) := rfl
    obtain ⟨bn1, bn2⟩ := hsm t (by omega)
    cases hs : tS K t with
    | false =>
      rw [hs] at hta e2 e3
      simp only [cond_false, Bool.false_and] at hta e2 e3
      obtain ⟨im', i1, i2⟩ := ih (t + 1) (.int (-1)) x6 (by omega) (by rw [e2]; exact hwk) rfl c6
      refine ⟨im', ?_, i2⟩
      rw [← i1, e2, e3, LX4_faultOfSense_7]
      simp (decide := true) only [QX4_faultOfSense, h0.1, c, hta, gm_cont_i, if_true, if_false, c5, c6, nI_a1]
    | true =>
      rw [hs] at hta e2 e3
      simp only [cond_true, Bool.true_and] at hta e2 e3
      have hokt := okT_le hok (show t ≤ N by omega)
      have hw0 := ((gst_J (V := V) hokt).1).mpr hs
      have hf := (hok.2 t htN).2
      unfold gf at hf
      rw [if_pos hw0] at hf
      have hr : ¬ (K t < 128 ∨ 136 ≤ K t) := fun e => by rw [if_pos e] at hf; cases hf
      obtain ⟨s, hks⟩ : ∃ s, K t = 128 + s := ⟨K t - 128, by omega⟩
      have hs8 : s < 8 := by omega
      have hsb : nI (K t) - 128 = nI s := by rw [hks, show (128 : Int32) = nI 128 from rfl, nI_sub (by omega), Nat.add_sub_cancel_left]
      rw [hsb] at hta
      have c0 : ¬ nI s < 0 := nI_pos (by omega)
      obtain ⟨w1, w2, w3, w4, w5, w6, w7, w8, w9⟩ := tlW_n K V (foA K V t) t
      by_cases h5 : s < 5
      · have c1 : nI s < 5 := nI_lt (b := 5) h5 (by decide)
        have hfl := fld hok hw htN hw0 hks h5
        have htl := C_tell h0 h4 hst0 hK hV h5 hks hfl.1
        have htw : (tlW K V (foA K V t) t).wk = (sfT K V t).1 ∧ (tlW K V (foA K V t) t).wt = (sfT K V t).2 := by
          unfold tlW
          rw [if_pos ⟨hwk, by rw [hks]; omega⟩, TA_wk, TA_wt]
          exact ⟨rfl, rfl⟩
        have hwk1 : (foA K V (t + 1)).wk = (sfT K V t).1 ∧ (foA K V (t + 1)).wt = (sfT K V t).2 := by
          rw [e2, (tlT_w _ _).1, (tlT_w _ _).2]; exact htw
        by_cases hz : (sfT K V t).1 = 0
        · have hM : sfM im P (sfT K V t) = im := by unfold sfM; rw [if_pos hz]
          rw [hM, hz] at htl
          obtain ⟨im', i1, i2⟩ := ih (t + 1) (.int (nI s)) (.int (nI 0)) (by omega) (by rw [hwk1.1]; exact hz) rfl rfl
          refine ⟨im', ?_, i2⟩
          have z0 : nI 0 = 0 := rfl
          rw [z0] at htl i1
          rw [← i1, LX4_faultOfSense_7]
          have hg := hfl.2.2.1
          rcases (by omega : s = 0 ∨ s = 1 ∨ s = 2 ∨ s = 3 ∨ s = 4) with q | q | q | q | q
          · subst q
            have hv := C_valueAt h0 h4 (x := t + 1) (by have := hfl.1; show t + 1 < N; have : gNa 0 = 0 := rfl; have : gIn 0 = 1 := rfl; omega)
            have hvi : (Int64.ofNat (V (t + 1))).toInt32 = nI (V (t + 1)) := i64_i32 (by have := hV2 _ (hg 0 (by decide)); have e9 : t + 1 + gNa 0 + 0 = t + 1 := rfl; rw [e9] at this; omega)
            have e4 : (foA K V (t + 1)).sd = V (t + 1) := by rw [e2]; unfold tlT; rw [if_pos hks]; rfl
            have e5 : frT K V (t + 1) = frT K V t := by rw [e3, hks]; rfl
            rw [e4, e5]
            simp (decide := true) only [QX4_faultOfSense, h0.1, c, hta, gm_cont_i, gm_cont_l, if_true, if_false, c0, c1, htl, c5, c6, nI_a1, hv, hvi, not_true_eq_false]
          · subst q
            have hv := C_valueAt h0 h4 (x := t + 2) (by have := hfl.1; have : gNa 1 = 1 := rfl; have : gIn 1 = 4 := rfl; omega)
            have hvi : (Int64.ofNat (V (t + 2))).toInt32 = nI (V (t + 2)) := i64_i32 (by have := hV2 _ (hg 0 (by decide)); have e9 : t + 1 + gNa 1 + 0 = t + 2 := rfl; rw [e9] at this; omega)
            have hvb : V (t + 2) ≤ 9999 := by have := hV2 _ (hg 0 (by decide)); have e9 : t + 1 + gNa 1 + 0 = t + 2 := rfl; rw [e9] at this; omega
            have e4 : (foA K V (t + 1)).sd = (foA K V t).sd := by rw [e2]; unfold tlT; rw [if_neg (by omega), if_pos hks, TA_sd, w4]
            have e5 : frT K V (t + 1) = max (frT K V t) (V (t + 2)) := by rw [e3, hks]; rfl
            have e6 : (if nI (frT K V t) < nI (V (t + 2)) then nI (V (t + 2)) else nI (frT K V t)) = nI (max (frT K V t) (V (t + 2))) := by
              by_cases hm : frT K V t < V (t + 2)
              · rw [if_pos (nI_lt hm (by omega)), Nat.max_eq_right (by omega)]
              · rw [if_neg (nI_nlt (by omega) (by omega)), Nat.max_eq_left (by omega)]
            have e7 : nI t + 2 = nI (t + 2) := by rw [show (2 : Int32) = nI 2 from rfl, nI_add]
            rw [e4, e5, ← e6]
            simp (decide := true) only [QX4_faultOfSense, h0.1, c, hta, gm_cont_i, gm_cont_l, if_true, if_false, c0, c1, htl, c5, c6, nI_a1, e7, hv, hvi, not_true_eq_false, not_false_eq_true]
          · subst q
            have e4 : (foA K V (t + 1)).sd = (foA K V t).sd := by rw [e2]; unfold tlT; rw [if_neg (by omega), if_neg (by omega), if_pos hks, TA_sd, w4]
            have e5 : frT K V (t + 1) = frT K V t := by rw [e3, hks]; rfl
            rw [e4, e5]
            simp (decide := true) only [QX4_faultOfSense, h0.1, c, hta, gm_cont_i, gm_cont_l, if_true, if_false, c0, c1, htl, c5, c6, nI_a1, not_true_eq_false, not_false_eq_true]
          · subst q
            have hv := C_valueAt h0 h4 (x := t + 2) (by have := hfl.1; have : gNa 3 = 1 := rfl; have : gIn 3 = 1 := rfl; omega)
            have hvi : (Int64.ofNat (V (t + 2))).toInt32 = nI (V (t + 2)) := i64_i32 (by have := hV2 _ (hg 0 (by decide)); have e9 : t + 1 + gNa 3 + 0 = t + 2 := rfl; rw [e9] at this; omega)
            have hvb : V (t + 2) ≤ 9999 := by have := hV2 _ (hg 0 (by decide)); have e9 : t + 1 + gNa 3 + 0 = t + 2 := rfl; rw [e9] at this; omega
            have e4 : (foA K V (t + 1)).sd = (foA K V t).sd := by rw [e2]; unfold tlT; rw [if_neg (by omega), if_neg (by omega), if_neg (by omega), if_pos hks, TA_sd, w4]
            have e5 : frT K V (t + 1) = max (frT K V t) (V (t + 2)) := by rw [e3, hks]; rfl
            have e6 : (if nI (frT K V t) < nI (V (t + 2)) then nI (V (t + 2)) else nI (frT K V t)) = nI (max (frT K V t) (V (t + 2))) := by
              by_cases hm : frT K V t < V (t + 2)
              · rw [if_pos (nI_lt hm (by omega)), Nat.max_eq_right (by omega)]
              · rw [if_neg (nI_nlt (by omega) (by omega)), Nat.max_eq_left (by omega)]
            have e7 : nI t + 2 = nI (t + 2) := by rw [show (2 : Int32) = nI 2 from rfl, nI_add]
            rw [e4, e5, ← e6]
            simp (decide := true) only [QX4_faultOfSense, h0.1, c, hta, gm_cont_i, gm_cont_l, if_true, if_false, c0, c1, htl, c5, c6, nI_a1, e7, hv, hvi, not_true_eq_false, not_false_eq_true]
          · subst q
            have e4 : (foA K V (t + 1)).sd = (foA K V t).sd := by rw [e2]; unfold tlT; rw [if_neg (by omega), if_neg (by omega), if_neg (by omega), if_neg (by omega), if_pos hks, TA_sd, w4]
            have e5 : frT K V (t + 1) = frT K V t := by rw [e3, hks]; rfl
            rw [e4, e5]
            simp (decide := true) only [QX4_faultOfSense, h0.1, c, hta, gm_cont_i, gm_cont_l, if_true, if_false, c0, c1, htl, c5, c6, nI_a1, not_true_eq_false, not_false_eq_true]
        · have hk := foA_wk (K := K) (V := V) (t := t + 1) (by rw [hwk1.1]; exact hz) (N - (t + 1))
          rw [show t + 1 + (N - (t + 1)) = N by omega, hwk1.1, hwk1.2] at hk
          have hle5 : (sfT K V t).1 ≤ 5 := by
            unfold sfT
            split
            · exact (by decide : 3 ≤ 5)
            · have : ∀ f i, (rgS V (K t - 128) (t + 1 + gNa (K t - 128)) f i).1 ≤ 5 := by
                intro f
                induction f with
                | zero => intro i; exact Nat.zero_le _
                | succ f ihf => intro i; simp only [rgS]; split; exact Nat.le_refl _; exact ihf _
              exact this _ _
          have z1 : ¬ nI (sfT K V t).1 = 0 := nI_ne0 (by omega) (by omega)
          have hM : sfM im P (sfT K V t) = gm_up im 2 3 (nI (P (sfT K V t).2)) := by unfold sfM; rw [if_neg hz]
          rw [hM] at htl
          rw [hk.1, hk.2]
          refine ⟨gm_up im 2 3 (nI (P (sfT K V t).2)), ?_, Fr.up1 (by decide), by rw [if_neg hz]; exact gu_eq⟩
          rw [if_neg hz, LX4_faultOfSense_7]
          simp (decide := true) only [QX4_faultOfSense, h0.1, c, hta, gm_cont_i, if_true, if_false, c0, c1, htl, c5, c6, z1]
      · have c1 : ¬ nI s < 5 := nI_nlt (b := 5) (by omega) (by omega)
        have hW : tlW K V (foA K V t) t = foA K V t := by
          unfold tlW
          rw [if_neg]
          intro hc
          rw [hks] at hc
          omega
        have e4 : (foA K V (t + 1)).sd = (foA K V t).sd := by rw [e2]; unfold tlT; rw [if_neg (by omega), if_neg (by omega), if_neg (by omega), if_neg (by omega), if_neg (by omega), TA_sd, w4]
        have e5 : frT K V (t + 1) = frT K V t := by
          have a1 : ¬ K t = 129 := by omega
          have a2 : ¬ K t = 131 := by omega
          have a3 : (K t == 129 || K t == 131) = false := by
            rw [Bool.or_eq_false_iff]
            exact ⟨beq_eq_false_iff_ne.mpr a1, beq_eq_false_iff_ne.mpr a2⟩
          rw [e3, a3]
          rfl
        obtain ⟨im', i1, i2⟩ := ih (t + 1) (.int (nI s)) x6 (by omega) (by rw [e2, (tlT_w _ _).1, hW]; exact hwk) rfl c6
        refine ⟨im', ?_, i2⟩
        rw [← i1, e4, e5, LX4_faultOfSense_7]
        simp (decide := true) only [QX4_faultOfSense, h0.1, c, hta, gm_cont_i, if_true, if_false, c0, c1, c5, c6, nI_a1]
theorem C_sense (h0 : tokR im lm K V P N) (h4 : N ≤ 400) (hst0 : stR im) (hK : ∀ t, K t < 148) (hV : ∀ t, V t < 2 ^ 63) (hV2 : ∀ t, K t = 2 → V t ≤ 9999) (hok : okT K g0 N) (hw : (gst K g0 N).w = 0) (n : Nat) : ∃ im', gm_den 54 0 [.ref 2, .int (nI n), .null, .null, .null, .null, .null] [] 128 gm_RF im lm = some (some (.int (nI (if (foA K V N).wk = 0 then (if (foA K V N).sd ≤ frT K V N then 5 else 0) else (foA K V N).wk))), 128, gm_RF, im', lm) ∧ Fr [2] im im' ∧ im' 2 3 = nI (if (foA K V N).wk = 0 then n else P (foA K V N).wt) := by
  obtain ⟨im', h1, h2⟩ := C_sense_loop h0 h4 hst0 hK hV hV2 hok hw n N 0 .null .null (by omega) rfl rfl rfl
  refine ⟨im', ?_, h2⟩
  have n1 : Value.category .null = 1 := rfl
  rw [← h1]
  simp (decide := true) only [QX4_faultOfSense, n1, if_true]
  rfl
end
