/-! the end of the reference's reading: sides -/
section
variable {K V P W : Nat → Nat} {M : Nat}
theorem fr_sm {N : Nat} (hV2 : ∀ t, K t = 2 → V t ≤ 9999) (hok : okT K g0 N) (hw : (gst K g0 N).w = 0) : ∀ t, t ≤ N → (foA K V t).sd ≤ 9999 ∧ frT K V t ≤ 9999 := by
  intro t
  induction t with
  | zero => intro _; exact ⟨(by decide : 2 ≤ 9999), Nat.zero_le _⟩
  | succ t ih =>
    intro ht
    obtain ⟨i1, i2⟩ := ih (by omega)
    have e2 : foA K V (t + 1) = cond (tS K t) (tlT K V (foA K V t) t) (foA K V t) := rfl
    have e3 : frT K V (t + 1) = cond (tS K t && (K t == 129 || K t == 131)) (max (frT K V t) (V (t + 2))) (frT K V t) := rfl
    rw [e2, e3]
    cases hs : tS K t with
    | false => exact ⟨i1, i2⟩
    | true =>
      obtain ⟨w1, w2, w3, w4, w5, w6, w7, w8, w9⟩ := tlW_n K V (foA K V t) t
      have hw0 := ((gst_J (V := V) (okT_le hok (show t ≤ N by omega))).1).mpr hs
      simp only [cond_true, Bool.true_and]
      refine ⟨?_, ?_⟩
      · unfold tlT
        by_cases k0 : K t = 128
        · rw [if_pos k0, TA_sd]
          have := fld hok hw (show t < N by omega) hw0 (s := 0) k0 (by decide)
          exact hV2 _ (this.2.2.1 0 (by decide))
        · rw [if_neg k0]
          repeat' split
          all_goals (rw [TA_sd, w4]; exact i1)
      · by_cases k1 : K t = 129
        · have := fld hok hw (show t < N by omega) hw0 (s := 1) k1 (by decide)
          have h2 := hV2 _ (this.2.2.1 0 (by decide))
          have h3 : V (t + 2) ≤ 9999 := h2
          rw [show (K t == 129 || K t == 131) = true by simp [k1]]
          simp only [cond_true]
          omega
        · by_cases k2 : K t = 131
          · have := fld hok hw (show t < N by omega) hw0 (s := 3) k2 (by decide)
            have h2 := hV2 _ (this.2.2.1 0 (by decide))
            have h3 : V (t + 2) ≤ 9999 := h2
            rw [show (K t == 129 || K t == 131) = true by simp [k2]]
            simp only [cond_true]
            omega
          · rw [show (K t == 129 || K t == 131) = false by simp [k1, k2]]; exact i2
theorem sd_pos : ∀ t : Nat, (foA K V t).wk = 0 → 0 < (foA K V t).sd := by
  intro t
  induction t with
  | zero => intro _; exact (by decide : 0 < 2)
  | succ t ih =>
    have e2 : foA K V (t + 1) = cond (tS K t) (tlT K V (foA K V t) t) (foA K V t) := rfl
    rw [e2]
    cases hs : tS K t with
    | false => exact ih
    | true =>
      intro h
      rw [cond_true] at h ⊢
      have hw := (tlT_w (K := K) (V := V) (foA K V t) t).1
      obtain ⟨w1, w2, w3, w4, w5, w6, w7, w8, w9⟩ := tlW_n K V (foA K V t) t
      rw [hw] at h
      have h0 : (foA K V t).wk = 0 := by
        apply Classical.byContradiction
        intro hc
        unfold tlW at h
        rw [if_neg (fun e => hc e.1)] at h
        exact hc h
      have hp := ih h0
      unfold tlT
      by_cases k0 : K t = 128
      · rw [if_pos k0, TA_sd]
        have e := (tlW_eq (K := K) (V := V) (A := foA K V t) (t := t) (s := 0) k0 (by decide)).1
        rw [if_pos h0] at e
        rw [e] at h
        have es : sfT K V t = rgS V 0 (t + 1) 1 0 := by unfold sfT; rw [k0]; rw [if_neg (fun e => absurd e.1 (by decide))]; rfl
        rw [es, rgS_4] at h
        by_cases hr : V (t + 1 + 0) < gLo 0 0 ∨ gHi 0 0 < V (t + 1 + 0)
        · rw [if_pos hr] at h; cases h
        · have : gLo 0 0 = 2 := rfl
          rw [Nat.add_zero] at hr
          omega
      · rw [if_neg k0]
        repeat' split
        all_goals (rw [TA_sd, w4]; exact hp)
theorem M_sides_j {im : gm_I} (lm : gm_L) {s sd nj : Nat} (hs : s < 2) (h19 : im 84 19 = nI s) (h93 : im 93 s = nI sd) (h101 : im 101 s = nI nj) (hnj : nj ≤ 8) (hsd : sd ≤ 9999) (f : Nat → Nat) (hf : ∀ j, j < nj → im 102 (8 * s + j) = nI (f j) ∧ f j ≤ 9999) : ∀ w j : Nat, j + w = nj → (gm_den 184 51 [.ref 84, .int (nI j)] [] 128 gm_RF im lm = some (some (.int 1), 128, gm_RF, im, lm) ∧ ∀ x, j ≤ x → x < nj → f x < sd) ∨ (gm_den 184 51 [.ref 84, .int (nI j)] [] 128 gm_RF im lm = some (some (.int 0), 128, gm_RF, im, lm) ∧ ∃ x, x < nj ∧ sd ≤ f x) := by
  have i2s : gm_in (nI s) 2 = true ∧ (nI s).toNatClampNeg = s := i2 s hs
  intro w
  induction w with
  | zero =>
    intro j hj
    have hle : nI nj ≤ nI j := nI_le (by omega) (by omega)
    refine Or.inl ⟨?_, fun x a b => by omega⟩
    rw [LX12_areSides_51]
    simp (decide := true) only [QX12_areSides, h19, i2s, h101, hle, if_true]
  | succ w ih =>
    intro j hj
    have hle : ¬ nI nj ≤ nI j := nI_ge (by omega) (by omega)
    have e8 : (8 : Int32) * nI s + nI j = nI (8 * s + j) := by rw [show (8 : Int32) = nI 8 from rfl, nI_mul, nI_add]
    have i16 : gm_in (nI (8 * s + j)) 16 = true := gm_in_nI (by omega) (by decide)
    have c16 : (nI (8 * s + j)).toNatClampNeg = 8 * s + j := nI_clamp (by omega)
    obtain ⟨f1, f2⟩ := hf j (by omega)
    have e1 : nI j + 1 = nI (j + 1) := by rw [show (1 : Int32) = nI 1 from rfl, nI_add]
    by_cases h : f j < sd
    · have hlt : nI (f j) < nI sd := nI_lt h (by omega)
      have hst : gm_den 184 51 [.ref 84, .int (nI j)] [] 128 gm_RF im lm = gm_den 184 51 [.ref 84, .int (nI (j + 1))] [] 128 gm_RF im lm := by
        rw [LX12_areSides_51]
        simp (decide := true) only [QX12_areSides, h19, i2s, h101, hle, if_true, if_false, e8, i16, c16, f1, h93, hlt, e1]
      rw [hst]
      rcases ih (j + 1) (by omega) with ⟨a, b⟩ | q
      · refine Or.inl ⟨a, fun x h1 h2 => ?_⟩
        by_cases e : x = j
        · rw [e]; exact h
        · exact b x (by omega) h2
      · exact Or.inr q
    · have hlt : ¬ nI (f j) < nI sd := nI_nlt (by omega) (by omega)
      refine Or.inr ⟨?_, j, by omega, by omega⟩
      rw [LX12_areSides_51]
      simp (decide := true) only [QX12_areSides, h19, i2s, h101, hle, if_true, if_false, e8, i16, c16, f1, h93, hlt, e1]
theorem M_sides_a {im : gm_I} (lm : gm_L) {s sd nm nj : Nat} (hs : s < 2) (h19 : im 84 19 = nI s) (h93 : im 93 s = nI sd) (h94 : im 94 s = nI nm) (h101 : im 101 s = nI nj) (hnm : nm ≤ 7) (hnj : nj ≤ 8) (hsd : sd ≤ 9999) (g : Nat → Nat) (hg : ∀ j, j < nm → im 95 (7 * s + j) = nI (g j) ∧ g j ≤ 9999) (f : Nat → Nat) (hf : ∀ j, j < nj → im 102 (8 * s + j) = nI (f j) ∧ f j ≤ 9999) : ∀ w j : Nat, j + w = nm → (gm_den 184 2 [.ref 84, .int (nI j)] [] 128 gm_RF im lm = some (some (.int 1), 128, gm_RF, im, lm) ∧ (∀ x, j ≤ x → x < nm → g x < sd) ∧ ∀ x, x < nj → f x < sd) ∨ (gm_den 184 2 [.ref 84, .int (nI j)] [] 128 gm_RF im lm = some (some (.int 0), 128, gm_RF, im, lm) ∧ ((∃ x, x < nm ∧ sd ≤ g x) ∨ ∃ x, x < nj ∧ sd ≤ f x)) := by
  have i2s : gm_in (nI s) 2 = true ∧ (nI s).toNatClampNeg = s := i2 s hs
  intro w
  induction w with
  | zero =>
    intro j hj
    have hle : nI nm ≤ nI j := nI_le (by omega) (by omega)
    have hst : gm_den 184 2 [.ref 84, .int (nI j)] [] 128 gm_RF im lm = gm_den 184 51 [.ref 84, .int (nI 0)] [] 128 gm_RF im lm := by
      rw [LX12_areSides_2]
      simp (decide := true) only [QX12_areSides, h19, i2s, h94, hle, if_true]
      rfl
    rw [hst]
    rcases M_sides_j lm hs h19 h93 h101 hnj hsd f hf nj 0 (by omega) with ⟨a, b⟩ | ⟨a, b⟩
    · exact Or.inl ⟨a, fun x h1 h2 => by omega, fun x hx => b x (Nat.zero_le _) hx⟩
    · exact Or.inr ⟨a, Or.inr b⟩
  | succ w ih =>
    intro j hj
    have hle : ¬ nI nm ≤ nI j := nI_ge (by omega) (by omega)
    have e8 : (7 : Int32) * nI s + nI j = nI (7 * s + j) := by rw [show (7 : Int32) = nI 7 from rfl, nI_mul, nI_add]
    have i16 : gm_in (nI (7 * s + j)) 14 = true := gm_in_nI (by omega) (by decide)
    have c16 : (nI (7 * s + j)).toNatClampNeg = 7 * s + j := nI_clamp (by omega)
    obtain ⟨f1, f2⟩ := hg j (by omega)
    have e1 : nI j + 1 = nI (j + 1) := by rw [show (1 : Int32) = nI 1 from rfl, nI_add]
    by_cases h : g j < sd
    · have hlt : nI (g j) < nI sd := nI_lt h (by omega)
      have hst : gm_den 184 2 [.ref 84, .int (nI j)] [] 128 gm_RF im lm = gm_den 184 2 [.ref 84, .int (nI (j + 1))] [] 128 gm_RF im lm := by
        rw [LX12_areSides_2]
        simp (decide := true) only [QX12_areSides, h19, i2s, h94, hle, if_true, if_false, e8, i16, c16, f1, h93, hlt, e1]
      rw [hst]
      rcases ih (j + 1) (by omega) with ⟨a, b, c⟩ | q
      · refine Or.inl ⟨a, fun x h1 h2 => ?_, c⟩
        by_cases e : x = j
        · rw [e]; exact h
        · exact b x (by omega) h2
      · exact Or.inr q
    · have hlt : ¬ nI (g j) < nI sd := nI_nlt (by omega) (by omega)
      refine Or.inr ⟨?_, Or.inl ⟨j, by omega, by omega⟩⟩
      rw [LX12_areSides_2]
      simp (decide := true) only [QX12_areSides, h19, i2s, h94, hle, if_true, if_false, e8, i16, c16, f1, h93, hlt, e1]
/-- the loop of tells -/
theorem M_parse (hx : tcx K V P W M) {s : Nat} (hs : s < 2) (x1 : Int32) : ∀ (w t : Nat) (im : gm_I) (lm : gm_L), 401 ≤ t + w → pI K V P W M s im lm t → ∃ im' lm', gm_den 182 112 [.ref 84, .int x1] [] 128 gm_RF im lm = gm_den 182 134 [.ref 84, .int x1] [] 128 gm_RF im' lm' ∧ mF s im im' ∧ Fr [92] lm lm' ∧ (pB K P im' ∨ ∃ T, gE K g0 T ∧ pI K V P W M s im' lm' T) := by
  intro w
  induction w with
  | zero =>
    intro t im lm hw h
    have := h.1.1
    omega
  | succ w ih =>
    intro t im lm hw h
    have h13 := h.2.2.1.2
    have hi := M_isK (k := 3) (c := 0) h.2.2.2.1 hx.1 h.1 h.2.2.1 rfl rfl
    by_cases k3 : K t = 3
    · have hb : b32 (K t == 3) = 1 := by rw [k3]; rfl
      rw [hb] at hi
      refine ⟨im, lm, ?_, mF.rf _ _, Fr.rf _ _, Or.inr ⟨t, ⟨h.2.1, k3⟩, h⟩⟩
      rw [LX12_read_112]
      simp (decide := true) only [QX12_read, h13, not_true_eq_false, if_false, hi, gm_cont_i, if_true, not_false_eq_true]
    · have hb : b32 (K t == 3) = 0 := by rw [beq_false_of_ne k3]; rfl
      rw [hb] at hi
      obtain ⟨J, lm2, q1, q2, q3, q4⟩ := M_tellOne hx hs h k3
      have hst : gm_den 182 112 [.ref 84, .int x1] [] 128 gm_RF im lm = gm_den 182 112 [.ref 84, .int x1] [] 128 gm_RF J lm2 := by
        rw [LX12_read_112]
        simp (decide := true) only [QX12_read, h13, not_true_eq_false, if_false, hi, gm_cont_i, if_true, not_false_eq_true, q1, gm_cont_v]
      rw [hst]
      rcases q4 with hB | ⟨t', ht', hp⟩
      · have e := (pB_ne hB).1
        refine ⟨J, lm2, ?_, q2, q3, Or.inl hB⟩
        rw [LX12_read_112]
        simp (decide := true) only [QX12_read, e, not_false_eq_true, if_true]
      · obtain ⟨im', lm', r1, r2, r3, r4⟩ := ih t' J lm2 (by omega) hp
        exact ⟨im', lm', r1, q2.tr r2, q3.tr r3, r4⟩
end
