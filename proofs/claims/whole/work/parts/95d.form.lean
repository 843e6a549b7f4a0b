/-! the form of a text, as the program finds it -/
def tokR (im : gm_I) (lm : gm_L) (K V P : Nat → Nat) (t : Nat) : Prop := im 7 3 = nI t ∧ ∀ x, x < t → im 8 x = nI (K x) ∧ im 10 x = nI (P x) ∧ lm 9 x = Int64.ofNat (V x)
theorem C_gbegin_loop (im0 : gm_I) (lm : gm_L) : ∀ w s : Nat, ∀ im : gm_I, s + w = 8 → (∀ x, x < s → im 6 x = 0) → Fr [6] im0 im → ∃ im', gm_den 26 2 [.ref 5, .int (nI s)] [] 128 gm_RF im lm = some (none, 128, gm_RF, im', lm) ∧ Fr [5, 6] im0 im' ∧ im' 5 1 = 0 ∧ ∀ x, x < 8 → im' 6 x = 0 := by
  intro w
  induction w with
  | zero =>
    intro s im hs h6 hF
    have : s = 8 := by omega
    subst this
    refine ⟨gm_up im 5 1 0, ?_, (hF.mo (K := [5, 6]) (by decide)).up (by decide), gu_eq, fun x hx => by rw [gu_ne (by decide)]; exact h6 x hx⟩
    rw [LX1_begin_2]
    simp (decide := true) only [QX1_begin, if_true]
  | succ w ih =>
    intro s im hs h6 hF
    have hlt : ¬ (8 : Int32) ≤ nI s := nI_ge (b := 8) (by omega) (by decide)
    have hin : gm_in (nI s) 8 = true := gm_in_nI (by omega) (by decide)
    have hcl : (nI s).toNatClampNeg = s := nI_clamp (by omega)
    obtain ⟨im', h1, h2⟩ := ih (s + 1) (gm_up im 6 s 0) (by omega) (fun x hx => by
      by_cases e : x = s
      · subst e; exact gu_eq
      · rw [gu_nk e]; exact h6 x (by omega)) (hF.up (by decide))
    refine ⟨im', ?_, h2⟩
    rw [← h1, LX1_begin_2]
    simp (decide := true) only [QX1_begin, hlt, hin, hcl, if_true, if_false, nI_a1]
theorem C_gbegin (im : gm_I) (lm : gm_L) : ∃ im', gm_den 26 0 [.ref 5, .null] [] 128 gm_RF im lm = some (none, 128, gm_RF, im', lm) ∧ Fr [5, 6] im im' ∧ gR im' (gB g0) := by
  obtain ⟨im', h1, h2, h3, h4⟩ := C_gbegin_loop im lm 8 0 im rfl (fun x hx => absurd hx (Nat.not_lt_zero _)) (Fr.rf _ _)
  refine ⟨im', ?_, h2, h3, fun h => (by cases h), fun h => absurd h (by show ¬ 3 ≤ 0; decide), h4⟩
  rw [← h1]
  simp (decide := true) only [QX1_begin]
  rfl
theorem C_mayEnd {im : gm_I} {g : GS} (hR : gR im g) (hB : gBd g) (lm : gm_L) : gm_den 27 0 [.ref 5] [] 128 gm_RF im lm = some (some (.int (b32 (g.w == 0))), 128, gm_RF, im, lm) := by
  have hw := hB.1
  by_cases h : g.w = 0
  · have e : im 5 1 = 0 := by rw [hR.1, h]; rfl
    rw [show (g.w == 0) = true by simp [h]]
    simp (decide := true) only [QX1_mayEnd, e, if_true, if_false]; rfl
  · have e : ¬ im 5 1 = 0 := by rw [hR.1]; exact nI_ne0 (by omega) (by omega)
    rw [show (g.w == 0) = false by simp [h]]
    simp (decide := true) only [QX1_mayEnd, e, if_true, if_false, not_false_eq_true]; rfl
theorem C_add {im : gm_I} {lm : gm_L} {K V P : Nat → Nat} {t : Nat} (h : tokR im lm K V P t) (ht : t < 400) : ∃ im' lm', gm_den 102 0 [.ref 7, .int (nI (K t)), .long (Int64.ofNat (V t)), .null, .int (nI (P t))] [] 128 gm_RF im lm = some (none, 128, gm_RF, im', lm') ∧ Fr [7, 8, 10] im im' ∧ Fr [9] lm lm' ∧ tokR im' lm' K V P (t + 1) := by
  obtain ⟨h1, h2⟩ := h
  have hlt : ¬ (400 : Int32) ≤ nI t := nI_ge (b := 400) ht (by decide)
  have hin : gm_in (nI t) 400 = true := gm_in_nI (by omega) (by decide)
  have hcl : (nI t).toNatClampNeg = t := nI_clamp (by omega)
  have e8 : gm_up im 8 t (nI (K t)) 7 3 = nI t := by rw [gu_ne (by decide)]; exact h1
  have e10 : gm_up (gm_up im 8 t (nI (K t))) 10 t (nI (P t)) 7 3 = nI t := by rw [gu_ne (by decide)]; exact e8
  refine ⟨gm_up (gm_up (gm_up im 8 t (nI (K t))) 10 t (nI (P t))) 7 3 (nI (t + 1)), gm_up lm 9 t (Int64.ofNat (V t)), ?_, ((Fr.up1 (by decide)).up (by decide)).up (by decide), Fr.up1 (by decide), gu_eq, fun x hx => ?_⟩
  · simp (decide := true) only [QX10_add, h1, hlt, if_false, hin, hcl, if_true, e8, e10, nI_a1]
  · by_cases e : x = t
    · subst e
      refine ⟨?_, ?_, gu_eq⟩
      · rw [gu_ne (by decide), gu_ne (by decide)]; exact gu_eq
      · rw [gu_ne (by decide)]; exact gu_eq
    · obtain ⟨a, b, c⟩ := h2 x (by omega)
      refine ⟨?_, ?_, ?_⟩
      · rw [gu_ne (by decide), gu_ne (by decide), gu_nk e]; exact a
      · rw [gu_ne (by decide), gu_nk e, gu_ne (by decide)]; exact b
      · rw [gu_nk e]; exact c
theorem C_add400 {im : gm_I} {lm : gm_L} (h : im 7 3 = nI 400) (k p : Int32) (v : Int64) : gm_den 102 0 [.ref 7, .int k, .long v, .null, .int p] [] 128 gm_RF im lm = some (none, 128, gm_RF, im, lm) := by
  have e : (400 : Int32) ≤ nI 400 := by decide
  simp (decide := true) only [QX10_add, h, e, if_true]
theorem kOk_lt {k : Nat} (h : kOk k = true) : k < 148 := by
  unfold kOk at h
  simp only [Bool.or_eq_true, Bool.and_eq_true, decide_eq_true_eq, beq_iff_eq] at h
  omega
theorem tkk_lt (tb : Nat → Nat) (n t : Nat) : tkk tb n t < 148 := kOk_lt (tkk_ok tb n t)
theorem gBd_B : gBd (gB g0) := ⟨by decide, by decide, by decide, by decide, by decide, by decide, fun _ _ => Nat.zero_le _⟩
theorem gBd_st {K : Nat → Nat} : ∀ {t : Nat}, okT K g0 t → gBd (gst K g0 t) := by
  intro t
  induction t with
  | zero => intro _; exact gBd_B
  | succ t ih => intro h; exact gBd_n (ih (okT_le h (by omega))) (h.2 t (by omega)).2
theorem gf_2 (g : GS) (k : Nat) : gf g k ≤ 2 := by
  unfold gf
  by_cases w0 : g.w = 0
  · rw [if_pos w0]; split; decide; split <;> decide
  · rw [if_neg w0]
    by_cases w1 : g.w = 1
    · rw [if_pos w1]; split; split <;> decide; split; split <;> decide; split <;> decide
    · rw [if_neg w1]
      by_cases w2 : g.w = 2
      · rw [if_pos w2]; split <;> decide
      · rw [if_neg w2]
        by_cases w3 : g.w = 3
        · rw [if_pos w3]; split; split; split <;> decide; decide; split; split <;> decide; split <;> decide
        · rw [if_neg w3]
          cases gOpr k with
          | true => exact Nat.zero_le _
          | false => simp only [cond_false]; split; split <;> decide; split <;> decide
section
variable {tb : Nat → Nat} {n : Nat}
theorem C_form_loop {im0 : gm_I} {lm0 : gm_L} (hT0 : TX im0 tb n) (hst0 : stR im0) (hw0 : ∀ w, w < 20 → lm0 4 w = Int64.ofNat (pkL 32 (cwd w))) : ∀ (w t : Nat) (im : gm_I) (lm : gm_L) (x5 : Value), t + w = 401 → okT (tkk tb n) g0 t → Fr [2, 3, 5, 6, 7, 8, 10] im0 im → Fr [3, 9] lm0 lm → gR im (gst (tkk tb n) g0 t) → tokR im lm (tkk tb n) (tkv tb n) (tkP tb n) t → x5.category = 1 → ∃ im' lm' t' f, gm_den 53 20 [.ref 2, .ref 1, .int (nI n), .int (nI (tkF tb n t)), .int (nI t), x5] [] 128 gm_RF im lm = some (some (.int (nI f)), 128, gm_RF, im', lm') ∧ foT (tkk tb n) g0 t' f ∧ Fr [2, 3, 5, 6, 7, 8, 10] im0 im' ∧ Fr [3, 9] lm0 lm' ∧ im' 2 3 = nI (tkP tb n t') ∧ (f = 0 → tokR im' lm' (tkk tb n) (tkv tb n) (tkP tb n) t') := by
  intro w
  induction w with
  | zero => intro t im lm x5 ht hok; exact absurd hok.1 (by omega)
  | succ w ih =>
    intro t im lm x5 ht hok hF hL hR hTok c5
    have h400 := hok.1
    have hB := gBd_st hok
    have hT : TX im tb n := hT0.fr (hF 1 (by decide))
    have hst : stR im := stR_k hst0 (fun q hq => hF q (by simp; omega))
    have hw : ∀ w, w < 20 → lm 4 w = Int64.ofNat (pkL 32 (cwd w)) := fun w h => by rw [hL 4 (by decide)]; exact hw0 w h
    have hfr := tkF_n (tb := tb) (n := n) (k := t) (fun x hx => okT_K hok hx)
    have h2000 := hT0.1
    obtain ⟨im1, lm1, s1, s2, s3, s4, s5, s6⟩ := C_step hT hst.1 hfr.1 hw
    have s4' : im1 3 1 = nI (tkk tb n t) := s4
    have s5' : im1 3 3 = nI (tkP tb n t) := s5
    have hle : ¬ (400 : Int32) < nI t := nI_nlt (a := 400) h400 (by omega)
    have s4u : ∀ v, gm_up im1 2 3 v 3 1 = nI (tkk tb n t) := fun v => by rw [gu_ne (by decide)]; exact s4'
    have s5u : ∀ v, gm_up im1 2 3 v 3 3 = nI (tkP tb n t) := fun v => by rw [gu_ne (by decide)]; exact s5'
    have hFu : Fr [2, 3, 5, 6, 7, 8, 10] im0 (gm_up im1 2 3 (nI (tkP tb n t))) := (hF.tr (s2.mo (by decide))).up (by decide)
    have hLu : Fr [3, 9] lm0 lm1 := hL.tr (s3.mo (by decide))
    have hRu : gR (gm_up im1 2 3 (nI (tkP tb n t))) (gst (tkk tb n) g0 t) := by
      unfold gR
      rw [gu_row (by decide), gu_row (by decide), s2 5 (by decide), s2 6 (by decide)]
      exact hR
    have hTu : tokR (gm_up im1 2 3 (nI (tkP tb n t))) lm1 (tkk tb n) (tkv tb n) (tkP tb n) t := by
      unfold tokR
      rw [gu_row (by decide), gu_row (by decide), gu_row (by decide), s2 7 (by decide), s2 8 (by decide), s2 10 (by decide), s3 9 (by decide)]
      exact hTok
    have hku : gm_up im1 2 3 (nI (tkP tb n t)) 2 3 = nI (tkP tb n t) := gu_eq
    have hstu : stR (gm_up im1 2 3 (nI (tkP tb n t))) := stR_k hst (fun q hq => by rw [gu_row (by omega)]; exact s2 q (by simp; omega))
    have h4u : tkP tb n t < n → gm_up im1 2 3 (nI (tkP tb n t)) 3 4 = nI (tkF tb n (t + 1)) ∧ lm1 3 2 = Int64.ofNat (tkv tb n t) := fun h => by
      rw [gu_ne (by decide)]; exact s6 h
    have hkt := tkk_lt tb n t
    by_cases h3 : tkk tb n t = 3
    · have e3 : nI (tkk tb n t) = 3 := by rw [h3]; rfl
      have hm := C_mayEnd hRu hB lm1
      by_cases w0 : (gst (tkk tb n) g0 t).w = 0
      · rw [show ((gst (tkk tb n) g0 t).w == 0) = true by simp [w0]] at hm
        refine ⟨_, lm1, t, 0, ?_, ⟨hok, Or.inl ⟨⟨w0, h3⟩, rfl⟩⟩, hFu, hLu, hku, fun _ => hTu⟩
        rw [LX4_faultOfForm_20]
        simp (decide := true) only [QX4_faultOfForm, hle, if_false, s1, gm_cont_v, s4u, s5', e3, if_true, hm, gm_cont_i, b32_t, not_true_eq_false]
        rfl
      · rw [show ((gst (tkk tb n) g0 t).w == 0) = false by simp [w0]] at hm
        refine ⟨_, lm1, t, 1, ?_, foT_bad hok (gE_w w0) (by rw [h3]; exact gf_end w0) (by decide), hFu, hLu, hku, fun h => (by cases h)⟩
        rw [LX4_faultOfForm_20]
        simp (decide := true) only [QX4_faultOfForm, hle, if_false, s1, gm_cont_v, s4u, s5', e3, if_true, hm, gm_cont_i, b32_f, not_true_eq_false]
        rfl
    · have e3 : ¬ nI (tkk tb n t) = 3 := fun h => h3 ((nK_eq (by omega) (by decide)).mp h)
      have hlt : tkP tb n t < n := by rw [tkk_end] at h3; omega
      obtain ⟨h4a, h4b⟩ := h4u hlt
      obtain ⟨im2, g1, g2, g3⟩ := C_gram hRu hB hstu hkt lm1
      have hF2 : Fr [2, 3, 5, 6, 7, 8, 10] im0 im2 := hFu.tr (g2.mo (by decide))
      have hk2 : im2 2 3 = nI (tkP tb n t) := by rw [g2 2 (by decide)]; exact hku
      by_cases hf : gf (gst (tkk tb n) g0 t) (tkk tb n t) = 0
      · rw [hf] at g1
        have g31 : im2 3 1 = nI (tkk tb n t) := by rw [g2 3 (by decide)]; exact s4u _
        have g33 : im2 3 3 = nI (tkP tb n t) := by rw [g2 3 (by decide)]; exact s5u _
        have g34 : im2 3 4 = nI (tkF tb n (t + 1)) := by rw [g2 3 (by decide)]; exact h4a
        have hT2 : tokR im2 lm1 (tkk tb n) (tkv tb n) (tkP tb n) t := by
          unfold tokR
          rw [g2 7 (by decide), g2 8 (by decide), g2 10 (by decide)]
          exact hTu
        have hgo := okT_go hok (gE_k h3) hf
        have z0 : nI 0 = 0 := rfl
        rw [z0] at g1
        by_cases ht4 : t = 400
        · subst ht4
          refine ⟨im2, lm1, 400, 2, ?_, hgo.1 rfl, hF2, hLu, hk2, fun h => (by cases h)⟩
          have hadd := C_add400 (lm := lm1) hT2.1 (nI (tkk tb n 400)) (nI (tkP tb n 400)) (Int64.ofNat (tkv tb n 400))
          have hend : gm_den 53 20 [.ref 2, .ref 1, .int (nI n), .int (nI (tkF tb n (400 + 1))), .int (nI (400 + 1)), .int 0] [] 128 gm_RF im2 lm1 = some (some (.int (nI 2)), 128, gm_RF, im2, lm1) := by
            have q : (400 : Int32) < nI (400 + 1) := by decide
            rw [LX4_faultOfForm_20]
            simp (decide := true) only [QX4_faultOfForm, q, if_true]
            rfl
          rw [← hend, LX4_faultOfForm_20]
          simp (decide := true) only [QX4_faultOfForm, hle, if_false, s1, gm_cont_v, s4u, s5', e3, if_true, g1, gm_cont_i, not_false_eq_true, c5, g31, g33, g34, h4b, hadd, nI_a1]
        · obtain ⟨im3, lm3, a1, a2, a3, a4⟩ := C_add hT2 (by omega)
          have hR3 : gR im3 (gst (tkk tb n) g0 (t + 1)) := by
            have := g3 hf
            unfold gR at this ⊢
            rw [a2 5 (by decide), a2 6 (by decide)]
            exact this
          obtain ⟨im', lm', t', f, i1, i2⟩ := ih (t + 1) im3 lm3 (.int 0) (by omega) (hgo.2 ht4) (hF2.tr (a2.mo (by decide))) (hLu.tr (a3.mo (by decide))) hR3 a4 rfl
          refine ⟨im', lm', t', f, ?_, i2⟩
          have a34 : im3 3 4 = nI (tkF tb n (t + 1)) := by rw [a2 3 (by decide)]; exact g34
          rw [← i1, LX4_faultOfForm_20]
          simp (decide := true) only [QX4_faultOfForm, hle, if_false, s1, gm_cont_v, s4u, s5', e3, if_true, g1, gm_cont_i, not_false_eq_true, c5, g31, g33, a34, h4b, a1, nI_a1]
      · have hf2 := gf_2 (gst (tkk tb n) g0 t) (tkk tb n t)
        have e0 : ¬ nI (gf (gst (tkk tb n) g0 t) (tkk tb n t)) = 0 := nI_ne0 (by omega) (by omega)
        refine ⟨im2, lm1, t, _, ?_, foT_bad hok (gE_k h3) rfl hf, hF2, hLu, hk2, fun h => absurd h hf⟩
        rw [LX4_faultOfForm_20]
        simp (decide := true) only [QX4_faultOfForm, hle, if_false, s1, gm_cont_v, s4u, s5', e3, if_true, g1, gm_cont_i, not_false_eq_true, c5, e0]
theorem C_form {im : gm_I} {lm : gm_L} (hT : TX im tb n) (hst : stR im) (hw : ∀ w, w < 20 → lm 4 w = Int64.ofNat (pkL 32 (cwd w))) : ∃ im' lm' t f, gm_den 53 0 [.ref 2, .ref 1, .int (nI n), .null, .null, .null] [] 128 gm_RF im lm = some (some (.int (nI f)), 128, gm_RF, im', lm') ∧ foT (tkk tb n) g0 t f ∧ Fr [2, 3, 5, 6, 7, 8, 10] im im' ∧ Fr [3, 9] lm lm' ∧ im' 2 3 = nI (tkP tb n t) ∧ (f = 0 → tokR im' lm' (tkk tb n) (tkv tb n) (tkP tb n) t) := by
  obtain ⟨im1, h1, h2, h3⟩ := C_gbegin im lm
  obtain ⟨im', lm', t, f, i1, i2⟩ := C_form_loop hT hst hw 401 0 (gm_up im1 7 3 0) lm .null rfl okT_0 ((h2.mo (K := [2, 3, 5, 6, 7, 8, 10]) (by decide)).up (by decide)) (Fr.rf _ _) (by
    unfold gR at h3 ⊢
    rw [gu_row (by decide), gu_row (by decide)]
    exact h3) ⟨gu_eq, fun x hx => absurd hx (Nat.not_lt_zero _)⟩ rfl
  refine ⟨im', lm', t, f, ?_, i2⟩
  have n1 : Value.category .null = 1 := rfl
  rw [← i1]
  simp (decide := true) only [QX4_faultOfForm, h1, gm_cont_v, n1, if_true]
  rfl
end
