/-! the grammar, step by step -/
theorem stR_1 {im : gm_I} (h : stR im) {s : Nat} (hs : s < 8) : im 1001 s = nI (gMost s) := by
  have h1 := h.2 0 s (by decide) (by omega)
  have h2 : ∀ s : Fin 8, (gm_SA.getD 0 []).getD s.val 0 = nI (gMost s.val) := by decide
  exact h1.trans (h2 ⟨s, hs⟩)
theorem stR_2 {im : gm_I} (h : stR im) {s : Nat} (hs : s < 5) : im 1002 s = nI (gNa s) := by
  have h1 := h.2 1 s (by decide) (by omega)
  have h2 : ∀ s : Fin 5, (gm_SA.getD 1 []).getD s.val 0 = nI (gNa s.val) := by decide
  exact h1.trans (h2 ⟨s, hs⟩)
theorem stR_3 {im : gm_I} (h : stR im) {s : Nat} (hs : s < 5) : im 1003 s = nI (gIn s) := by
  have h1 := h.2 2 s (by decide) (by omega)
  have h2 : ∀ s : Fin 5, (gm_SA.getD 2 []).getD s.val 0 = nI (gIn s.val) := by decide
  exact h1.trans (h2 ⟨s, hs⟩)
theorem stR_4 {im : gm_I} (h : stR im) {s i : Nat} (hs : s < 5) (hi : i < gIn s) : im 1004 (s * 4 + i) = nI (gLo s i) ∧ im 1005 (s * 4 + i) = nI (gHi s i) := by
  have hg : gIn s ≤ 4 := by unfold gIn; split; decide; split <;> decide
  have h1 := h.2 3 (s * 4 + i) (by decide) (by omega)
  have h3 := h.2 4 (s * 4 + i) (by decide) (by omega)
  have h2 : ∀ (s : Fin 5) (i : Fin 4), i.val < gIn s.val → (gm_SA.getD 3 []).getD (s.val * 4 + i.val) 0 = nI (gLo s.val i.val) ∧ (gm_SA.getD 4 []).getD (s.val * 4 + i.val) 0 = nI (gHi s.val i.val) := by decide
  have h4 := h2 ⟨s, hs⟩ ⟨i, by omega⟩ hi
  exact ⟨h1.trans h4.1, h3.trans h4.2⟩
def gR (im : gm_I) (g : GS) : Prop := im 5 1 = nI g.w ∧ (g.w = 1 → im 5 2 = nI g.nm ∧ im 5 3 = nI g.it) ∧ (3 ≤ g.w → im 5 4 = nI g.sc ∧ im 5 5 = nI g.op ∧ im 5 6 = nI g.fi) ∧ ∀ s, s < 8 → im 6 s = nI (g.tm s)
def gBd (g : GS) : Prop := g.w ≤ 4 ∧ g.nm ≤ 1 ∧ g.it ≤ 4 ∧ g.sc ≤ 4 ∧ g.op ≤ 6 ∧ g.fi ≤ 4 ∧ ∀ s, s < 8 → g.tm s ≤ 400
theorem gMost_le (s : Nat) : gMost s ≤ 400 := by unfold gMost; split; decide; split; decide; split <;> decide
theorem gIn_le (s : Nat) : gIn s ≤ 4 := by unfold gIn; split; decide; split <;> decide
theorem gNa_le (s : Nat) : gNa s ≤ 1 := by unfold gNa; split; decide; split; decide; split <;> decide
theorem gBd_n {g : GS} {k : Nat} (h : gBd g) (hf : gf g k = 0) : gBd (gn g k) := by
  obtain ⟨h1, h2, h3, h4, h5, h6, h7⟩ := h
  unfold gf at hf
  unfold gn
  by_cases w0 : g.w = 0
  · rw [if_pos w0] at hf ⊢
    have hr : ¬ (k < 128 ∨ 136 ≤ k) := fun e => by rw [if_pos e] at hf; cases hf
    rw [if_neg hr] at hf
    have hm : ¬ gMost (k - 128) ≤ g.tm (k - 128) := fun e => by rw [if_pos e] at hf; cases hf
    have hml := gMost_le (k - 128)
    have ht : ∀ s, s < 8 → udN g.tm (k - 128) (g.tm (k - 128) + 1) s ≤ 400 := fun s hs => by
      unfold udN
      by_cases e : s = k - 128
      · rw [if_pos e]; omega
      · rw [if_neg e]; exact h7 s hs
    split
    · exact ⟨by show 2 ≤ 4; decide, h2, h3, h4, h5, h6, ht⟩
    · have q1 := gNa_le (k - 128)
      have q2 := gIn_le (k - 128)
      unfold gBd
      rw [GS_w, GS_nm, GS_it, GS_sc, GS_op, GS_fi, GS_tm]
      exact ⟨by decide, q1, q2, h4, h5, h6, ht⟩
  · rw [if_neg w0] at hf ⊢
    by_cases w1 : g.w = 1
    · rw [if_pos w1] at hf ⊢
      split
      · exact ⟨h1, by show g.nm - 1 ≤ 1; omega, h3, h4, h5, h6, h7⟩
      · split
        · exact ⟨h1, h2, by show g.it - 1 ≤ 4; omega, h4, h5, h6, h7⟩
        · exact ⟨by show 0 ≤ 4; decide, h2, h3, h4, h5, h6, h7⟩
    · rw [if_neg w1] at hf ⊢
      by_cases w2 : g.w = 2
      · rw [if_pos w2] at hf ⊢
        exact ⟨by show 3 ≤ 4; decide, h2, h3, by show 0 ≤ 4; decide, by show 0 ≤ 6; decide, by show 0 ≤ 4; decide, h7⟩
      · rw [if_neg w2] at hf ⊢
        have hs4 : (if g.sc = 0 then 4 else g.sc) ≤ 4 := by split <;> omega
        by_cases w3 : g.w = 3
        · rw [if_pos w3] at hf ⊢
          by_cases k1 : k = 136
          · rw [if_pos k1] at hf ⊢
            have hfi : ¬ 4 ≤ g.fi := fun e => by
              by_cases c : g.sc = 0
              · rw [if_pos c, if_pos e] at hf; cases hf
              · rw [if_neg c] at hf; cases hf
            exact ⟨h1, h2, h3, by show 1 ≤ 4; decide, h5, by show g.fi + 1 ≤ 4; omega, h7⟩
          · rw [if_neg k1] at hf ⊢
            by_cases k2 : k = 40
            · rw [if_pos k2] at hf ⊢
              have ho : ¬ 6 ≤ g.op := fun e => by rw [if_pos e] at hf; cases hf
              exact ⟨h1, h2, h3, hs4, by show g.op + 1 ≤ 6; omega, h6, h7⟩
            · rw [if_neg k2] at hf ⊢
              exact ⟨by show 4 ≤ 4; decide, h2, h3, hs4, h5, h6, h7⟩
        · rw [if_neg w3] at hf ⊢
          cases gOpr k with
          | true => exact ⟨by show 3 ≤ 4; decide, h2, h3, h4, h5, h6, h7⟩
          | false =>
            simp only [cond_false]
            split
            · exact ⟨h1, h2, h3, h4, by show g.op - 1 ≤ 6; omega, h6, h7⟩
            · split
              · exact ⟨by show 3 ≤ 4; decide, h2, h3, by show 2 ≤ 4; decide, h5, h6, h7⟩
              · split
                · exact ⟨by show 3 ≤ 4; decide, h2, h3, by show 3 ≤ 4; decide, h5, h6, h7⟩
                · split
                  · exact ⟨by show 3 ≤ 4; decide, h2, h3, by show 0 ≤ 4; decide, h5, h6, h7⟩
                  · exact ⟨by show 0 ≤ 4; decide, h2, h3, h4, h5, h6, h7⟩
theorem nK_eq {k c : Nat} (hk : k < 1000) (hc : c < 1000) : nI k = nI c ↔ k = c := ⟨fun h => nI_inj (by omega) (by omega) h, fun h => by rw [h]⟩
section
variable {im : gm_I} {g : GS} {k : Nat}
theorem C_open (hR : gR im g) (hB : gBd g) (hst : stR im) (w0 : g.w = 0) (hk : k < 148) (lm : gm_L) : ∃ im', gm_den 29 0 [.ref 5, .int (nI k - 128)] [] 128 gm_RF im lm = some (some (.int (nI (gf g k))), 128, gm_RF, im', lm) ∧ Fr [5, 6] im im' ∧ (gf g k = 0 → gR im' (gn g k)) := by
  obtain ⟨r1, r2, r3, r4⟩ := hR
  obtain ⟨b1, b2, b3, b4, b5, b6, b7⟩ := hB
  have hf : gf g k = (if k < 128 ∨ 136 ≤ k then 1 else if gMost (k - 128) ≤ g.tm (k - 128) then 2 else 0) := by unfold gf; rw [if_pos w0]
  rw [hf]
  by_cases hr : k < 128 ∨ 136 ≤ k
  · rw [if_pos hr]
    refine ⟨im, ?_, Fr.rf _ _, fun h => (by cases h)⟩
    by_cases hl : k < 128
    · have c1 : nI k - 128 < 0 := by
        have : ∀ k : Fin 128, nI k.val - 128 < 0 := by decide
        exact this ⟨k, hl⟩
      simp (decide := true) only [QX1_openTell, c1, if_true]
      rfl
    · rw [show (128 : Int32) = nI 128 from rfl, nI_sub (by omega)]
      have c1 : ¬ nI (k - 128) < 0 := nI_pos (by omega)
      have c2 : ¬ nI (k - 128) < 8 := nI_nlt (b := 8) (by omega) (by omega)
      simp (decide := true) only [QX1_openTell, c1, c2, if_false]
      rfl
  · rw [if_neg hr, show (128 : Int32) = nI 128 from rfl, nI_sub (by omega)]
    obtain ⟨s, rfl⟩ : ∃ s, k = 128 + s := ⟨k - 128, by omega⟩
    rw [Nat.add_sub_cancel_left]
    have hs : s < 8 := by omega
    have c1 : ¬ nI s < 0 := nI_pos (by omega)
    have c2 : nI s < 8 := nI_lt (b := 8) hs (by decide)
    have c3 : gm_in (nI s) 8 = true := gm_in_nI hs (by decide)
    have c4 : (nI s).toNatClampNeg = s := nI_clamp (by omega)
    have hm := stR_1 hst hs
    have ht := r4 s hs
    have hml := gMost_le s
    have htl := b7 s hs
    by_cases hc : gMost s ≤ g.tm s
    · have c5 : ¬ nI (g.tm s) < nI (gMost s) := nI_nlt hc (by omega)
      rw [if_pos hc]
      refine ⟨im, ?_, Fr.rf _ _, fun h => (by cases h)⟩
      simp (decide := true) only [QX1_openTell, c1, c2, c3, c4, hm, ht, c5, if_true, if_false]
      rfl
    · have c5 : nI (g.tm s) < nI (gMost s) := nI_lt (by omega) (by omega)
      rw [if_neg hc]
      have hm' : ∀ v, gm_up im 6 s v 1001 s = nI (gMost s) := fun v => by rw [gu_ne (by decide)]; exact hm
      have htm : ∀ (J : gm_I), J 6 = gm_up im 6 s (nI (g.tm s + 1)) 6 → ∀ x, x < 8 → J 6 x = nI (udN g.tm s (g.tm s + 1) x) := by
        intro J hJ x hx
        rw [hJ]
        unfold udN
        by_cases e : x = s
        · subst e; rw [gu_eq, if_pos rfl]
        · rw [gu_nk e, if_neg e]; exact r4 x hx
      by_cases h5 : 5 ≤ s
      · have c6 : ¬ nI s < 5 := nI_nlt (b := 5) h5 (by omega)
        refine ⟨gm_up (gm_up im 6 s (nI (g.tm s + 1))) 5 1 2, ?_, (Fr.up1 (by decide)).up (by decide), fun _ => ?_⟩
        · simp (decide := true) only [QX1_openTell, c1, c2, c3, c4, hm, ht, c5, c6, if_true, if_false, nI_a1]
          rfl
        · unfold gn
          rw [if_pos w0, if_pos (by omega), Nat.add_sub_cancel_left]
          exact ⟨gu_eq, fun h => (by cases h), fun h => absurd h (by show ¬ 3 ≤ 2; decide), htm _ (gu_row (by decide))⟩
      · have h5' : s < 5 := by omega
        have c6 : nI s < 5 := nI_lt (b := 5) h5' (by decide)
        have c7 : gm_in (nI s) 5 = true := gm_in_nI h5' (by decide)
        have hna := stR_2 hst h5'
        have hin := stR_3 hst h5'
        have hna' : gm_up (gm_up im 6 s (nI (g.tm s + 1))) 5 1 1 1002 s = nI (gNa s) := by rw [gu_ne (by decide), gu_ne (by decide)]; exact hna
        have hin' : gm_up (gm_up (gm_up im 6 s (nI (g.tm s + 1))) 5 1 1) 5 2 (nI (gNa s)) 1003 s = nI (gIn s) := by rw [gu_ne (by decide), gu_ne (by decide), gu_ne (by decide)]; exact hin
        refine ⟨gm_up (gm_up (gm_up (gm_up im 6 s (nI (g.tm s + 1))) 5 1 1) 5 2 (nI (gNa s))) 5 3 (nI (gIn s)), ?_, (((Fr.up1 (by decide)).up (by decide)).up (by decide)).up (by decide), fun _ => ?_⟩
        · simp (decide := true) only [QX1_openTell, c1, c2, c3, c4, hm, ht, c5, c6, c7, hna', hin', if_true, if_false, nI_a1]
          rfl
        · unfold gn
          rw [if_pos w0, if_neg (by omega), Nat.add_sub_cancel_left]
          refine ⟨?_, fun _ => ⟨?_, gu_eq⟩, fun h => absurd h (by show ¬ 3 ≤ 1; decide), htm _ ?_⟩
          · rw [gu_nk (by decide), gu_nk (by decide)]; exact gu_eq
          · rw [gu_nk (by decide)]; exact gu_eq
          · rw [gu_row (by decide), gu_row (by decide), gu_row (by decide)]
theorem C_field (hR : gR im g) (hB : gBd g) (w1 : g.w = 1) (hk : k < 148) (lm : gm_L) : ∃ im', gm_den 30 0 [.ref 5, .int (nI k)] [] 128 gm_RF im lm = some (some (.int (nI (gf g k))), 128, gm_RF, im', lm) ∧ Fr [5, 6] im im' ∧ (gf g k = 0 → gR im' (gn g k)) := by
  obtain ⟨r1, r2, r3, r4⟩ := hR
  obtain ⟨b1, b2, b3, b4, b5, b6, b7⟩ := hB
  obtain ⟨r21, r22⟩ := r2 w1
  have w0 : ¬ g.w = 0 := by omega
  have hf : gf g k = (if 0 < g.nm then (if k = 1 then 0 else 1) else if 0 < g.it then (if k = 2 then 0 else 1) else (if k = 59 then 0 else 1)) := by unfold gf; rw [if_neg w0, if_pos w1]
  have hn : gn g k = if 0 < g.nm then (GS.mk g.w (g.nm - 1) g.it g.sc g.op g.fi g.tm) else if 0 < g.it then (GS.mk g.w g.nm (g.it - 1) g.sc g.op g.fi g.tm) else (GS.mk 0 g.nm g.it g.sc g.op g.fi g.tm) := by unfold gn; rw [if_neg w0, if_pos w1]
  rw [hf, hn]
  by_cases c1 : 0 < g.nm
  · have e1 : ¬ nI g.nm ≤ 0 := nI_nle c1 (by omega)
    have e2 : nI g.nm - 1 = nI (g.nm - 1) := nI_m1 c1
    rw [if_pos c1, if_pos c1]
    refine ⟨gm_up im 5 2 (nI (g.nm - 1)), ?_, Fr.up1 (by decide), fun _ => ⟨?_, fun _ => ⟨gu_eq, ?_⟩, fun h => absurd h (by show ¬ 3 ≤ g.w; omega), fun s hs => ?_⟩⟩
    · by_cases c2 : k = 1
      · subst c2
        simp (decide := true) only [QX1_takeField, r21, e1, e2, if_true, if_false]
        rfl
      · have e3 : ¬ nI k = 1 := fun h => c2 ((nK_eq (by omega) (by decide)).mp h)
        rw [if_neg c2]
        simp (decide := true) only [QX1_takeField, r21, e1, e2, e3, if_true, if_false, not_false_eq_true]
        rfl
    · rw [gu_nk (by decide)]; exact r1
    · rw [gu_nk (by decide)]; exact r22
    · rw [gu_ne (by decide)]; exact r4 s hs
  · have e0 : g.nm = 0 := by omega
    rw [e0] at r21
    have e1 : im 5 2 ≤ 0 := by rw [r21]; decide
    rw [if_neg c1, if_neg c1]
    by_cases c2 : 0 < g.it
    · have e2 : ¬ nI g.it ≤ 0 := nI_nle c2 (by omega)
      have e3 : nI g.it - 1 = nI (g.it - 1) := nI_m1 c2
      rw [if_pos c2, if_pos c2]
      refine ⟨gm_up im 5 3 (nI (g.it - 1)), ?_, Fr.up1 (by decide), fun _ => ⟨?_, fun _ => ⟨?_, gu_eq⟩, fun h => absurd h (by show ¬ 3 ≤ g.w; omega), fun s hs => ?_⟩⟩
      · by_cases c3 : k = 2
        · subst c3
          simp (decide := true) only [QX1_takeField, r22, e1, e2, e3, if_true, if_false]
          rfl
        · have e4 : ¬ nI k = 2 := fun h => c3 ((nK_eq (by omega) (by decide)).mp h)
          rw [if_neg c3]
          simp (decide := true) only [QX1_takeField, r22, e1, e2, e3, e4, if_true, if_false, not_false_eq_true]
          rfl
      · rw [gu_nk (by decide)]; exact r1
      · rw [gu_nk (by decide), r21, GS_nm, e0]
      · rw [gu_ne (by decide)]; exact r4 s hs
    · have e2 : im 5 3 ≤ 0 := by rw [r22, show g.it = 0 by omega]; decide
      rw [if_neg c2, if_neg c2]
      refine ⟨gm_up im 5 1 0, ?_, Fr.up1 (by decide), fun _ => ⟨gu_eq, fun h => (by cases h), fun h => absurd h (by show ¬ 3 ≤ 0; decide), fun s hs => ?_⟩⟩
      · by_cases c3 : k = 59
        · subst c3
          simp (decide := true) only [QX1_takeField, e1, e2, if_true]
          rfl
        · have e4 : ¬ nI k = 59 := fun h => c3 ((nK_eq (by omega) (by decide)).mp h)
          rw [if_neg c3]
          simp (decide := true) only [QX1_takeField, e1, e2, e4, if_true, not_false_eq_true]
          rfl
      · rw [gu_ne (by decide)]; exact r4 s hs
theorem C_equals (hR : gR im g) (w2 : g.w = 2) (hk : k < 148) (lm : gm_L) : ∃ im', gm_den 31 0 [.ref 5, .int (nI k)] [] 128 gm_RF im lm = some (some (.int (nI (gf g k))), 128, gm_RF, im', lm) ∧ Fr [5, 6] im im' ∧ (gf g k = 0 → gR im' (gn g k)) := by
  obtain ⟨r1, r2, r3, r4⟩ := hR
  have hf : gf g k = if k = 61 then 0 else 1 := by unfold gf; rw [if_neg (by omega), if_neg (by omega), if_pos w2]
  have hn : gn g k = (GS.mk 3 g.nm g.it 0 0 0 g.tm) := by unfold gn; rw [if_neg (by omega), if_neg (by omega), if_pos w2]
  rw [hf, hn]
  refine ⟨gm_up (gm_up (gm_up (gm_up im 5 1 3) 5 4 0) 5 5 0) 5 6 0, ?_, (((Fr.up1 (by decide)).up (by decide)).up (by decide)).up (by decide), fun _ => ⟨?_, fun h => (by cases h), fun _ => ⟨?_, ?_, gu_eq⟩, fun s hs => ?_⟩⟩
  · by_cases c : k = 61
    · subst c
      simp (decide := true) only [QX1_takeEquals, if_true, if_false]
      rfl
    · have e : ¬ nI k = 61 := fun h => c ((nK_eq (by omega) (by decide)).mp h)
      rw [if_neg c]
      simp (decide := true) only [QX1_takeEquals, e, if_true, if_false, not_false_eq_true]
      rfl
  · rw [gu_nk (by decide), gu_nk (by decide), gu_nk (by decide)]; exact gu_eq
  · rw [gu_nk (by decide), gu_nk (by decide)]; exact gu_eq
  · rw [gu_nk (by decide)]; exact gu_eq
  · rw [gu_ne (by decide), gu_ne (by decide), gu_ne (by decide), gu_ne (by decide)]; exact r4 s hs
/-- an operand: with the part set -/
theorem C_operand2 (r1 : im 5 1 = nI g.w) (r4 : ∀ s, s < 8 → im 6 s = nI (g.tm s)) (hB : gBd g) (w3 : g.w = 3) (hk : k < 148) (k136 : ¬ k = 136) {sc : Nat} (hsc : im 5 4 = nI sc) (r5 : im 5 5 = nI g.op) (r6 : im 5 6 = nI g.fi) (hs' : sc = if g.sc = 0 then 4 else g.sc) (lm : gm_L) : ∃ im', gm_den 32 24 [.ref 5, .int (nI k)] [] 128 gm_RF im lm = some (some (.int (nI (gf g k))), 128, gm_RF, im', lm) ∧ Fr [5, 6] im im' ∧ (gf g k = 0 → gR im' (gn g k)) := by
  obtain ⟨b1, b2, b3, b4, b5, b6, b7⟩ := hB
  have hf : gf g k = if k = 40 then (if 6 ≤ g.op then 2 else 0) else if k = 2 ∨ 139 ≤ k then 0 else 1 := by unfold gf; rw [if_neg (by omega), if_neg (by omega), if_neg (by omega), if_pos w3, if_neg k136]
  have hn : gn g k = if k = 40 then (GS.mk g.w g.nm g.it sc (g.op + 1) g.fi g.tm) else (GS.mk 4 g.nm g.it sc g.op g.fi g.tm) := by unfold gn; rw [if_neg (by omega), if_neg (by omega), if_neg (by omega), if_pos w3, if_neg k136, hs']
  rw [hf, hn]
  by_cases k40 : k = 40
  · subst k40
    rw [if_pos rfl, if_pos rfl]
    refine ⟨gm_up im 5 5 (nI (g.op + 1)), ?_, Fr.up1 (by decide), fun _ => ⟨?_, fun h => absurd (show g.w = 1 from h) (by omega), fun _ => ⟨?_, gu_eq, ?_⟩, fun s hs => ?_⟩⟩
    · by_cases c : 6 ≤ g.op
      · have e : ¬ nI (g.op + 1) ≤ 6 := nI_ge (a := 6) (by omega) (by omega)
        rw [if_pos c]
        simp (decide := true) only [QX1_takeOperand, r5, gu_eq, nI_a1, e, if_false]
        rfl
      · have e : nI (g.op + 1) ≤ 6 := nI_le (b := 6) (by omega) (by decide)
        rw [if_neg c]
        simp (decide := true) only [QX1_takeOperand, r5, gu_eq, nI_a1, e, if_false, if_true]
        rfl
    · rw [gu_nk (by decide)]; exact r1
    · rw [gu_nk (by decide)]; exact hsc
    · rw [gu_nk (by decide)]; exact r6
    · rw [gu_ne (by decide)]; exact r4 s hs
  · have e40 : ¬ nI k = 40 := fun h => k40 ((nK_eq (by omega) (by decide)).mp h)
    rw [if_neg k40, if_neg k40]
    refine ⟨gm_up im 5 1 4, ?_, Fr.up1 (by decide), fun _ => ⟨gu_eq, fun h => (by cases h), fun _ => ⟨?_, ?_, ?_⟩, fun s hs => ?_⟩⟩
    · by_cases c2 : k = 2
      · subst c2
        rw [if_pos (Or.inl rfl)]
        simp (decide := true) only [QX1_takeOperand, if_true]
        rfl
      · have e2 : ¬ nI k = 2 := fun h => c2 ((nK_eq (by omega) (by decide)).mp h)
        by_cases c3 : 139 ≤ k
        · have e3 : ¬ nI k < 139 := nI_nlt (b := 139) c3 (by omega)
          rw [if_pos (Or.inr c3)]
          simp (decide := true) only [QX1_takeOperand, e40, e2, e3, if_true, if_false, not_false_eq_true]
          rfl
        · have e3 : nI k < 139 := nI_lt (b := 139) (by omega) (by decide)
          rw [if_neg (by omega)]
          simp (decide := true) only [QX1_takeOperand, e40, e2, e3, if_true, if_false, not_false_eq_true]
          rfl
    · rw [gu_nk (by decide)]; exact hsc
    · rw [gu_nk (by decide)]; exact r5
    · rw [gu_nk (by decide)]; exact r6
    · rw [gu_ne (by decide)]; exact r4 s hs
theorem C_operand (hR : gR im g) (hB : gBd g) (w3 : g.w = 3) (hk : k < 148) (lm : gm_L) : ∃ im', gm_den 32 0 [.ref 5, .int (nI k)] [] 128 gm_RF im lm = some (some (.int (nI (gf g k))), 128, gm_RF, im', lm) ∧ Fr [5, 6] im im' ∧ (gf g k = 0 → gR im' (gn g k)) := by
  obtain ⟨r1, r2, r3, r4⟩ := hR
  obtain ⟨r5, r6, r7⟩ := r3 (by omega)
  have hBd := hB
  obtain ⟨b1, b2, b3, b4, b5, b6, b7⟩ := hB
  by_cases k136 : k = 136
  · subst k136
    have hf : gf g 136 = (if g.sc = 0 then (if 4 ≤ g.fi then 2 else 0) else 1) := by unfold gf; rw [if_neg (by omega), if_neg (by omega), if_neg (by omega), if_pos w3, if_pos rfl]
    have hn : gn g 136 = (GS.mk g.w g.nm g.it 1 g.op (g.fi + 1) g.tm) := by unfold gn; rw [if_neg (by omega), if_neg (by omega), if_neg (by omega), if_pos w3, if_pos rfl]
    rw [hf, hn]
    by_cases c : g.sc = 0
    · have e0 : im 5 4 = 0 := by rw [r5, c]; rfl
      rw [if_pos c]
      refine ⟨gm_up (gm_up im 5 4 1) 5 6 (nI (g.fi + 1)), ?_, (Fr.up1 (by decide)).up (by decide), fun _ => ⟨?_, fun h => absurd (show g.w = 1 from h) (by omega), fun _ => ⟨?_, ?_, gu_eq⟩, fun s hs => ?_⟩⟩
      · have e7 : gm_up im 5 4 1 5 6 = nI g.fi := by rw [gu_nk (by decide)]; exact r7
        by_cases c4 : 4 ≤ g.fi
        · have e : ¬ nI (g.fi + 1) ≤ 4 := nI_ge (a := 4) (by omega) (by omega)
          rw [if_pos c4]
          simp (decide := true) only [QX1_takeOperand, QX1_takeIf, e0, e7, nI_a1, gu_eq, e, if_false, if_true, gm_cont_i]
          rfl
        · have e : nI (g.fi + 1) ≤ 4 := nI_le (b := 4) (by omega) (by decide)
          rw [if_neg c4]
          simp (decide := true) only [QX1_takeOperand, QX1_takeIf, e0, e7, nI_a1, gu_eq, e, if_false, if_true, gm_cont_i]
          rfl
      · rw [gu_nk (by decide), gu_nk (by decide)]; exact r1
      · rw [gu_nk (by decide)]; exact gu_eq
      · rw [gu_nk (by decide), gu_nk (by decide)]; exact r6
      · rw [gu_ne (by decide), gu_ne (by decide)]; exact r4 s hs
    · have e0 : ¬ im 5 4 = 0 := by rw [r5]; exact nI_ne0 (by omega) (by omega)
      rw [if_neg c]
      refine ⟨im, ?_, Fr.rf _ _, fun h => (by cases h)⟩
      simp (decide := true) only [QX1_takeOperand, QX1_takeIf, e0, if_false, if_true, gm_cont_i]
      rfl
  · have e136 : ¬ nI k = 136 := fun h => k136 ((nK_eq (by omega) (by decide)).mp h)
    by_cases c : g.sc = 0
    · have e0 : im 5 4 = 0 := by rw [r5, c]; rfl
      obtain ⟨im', h1, h2, h3⟩ := C_operand2 (im := gm_up im 5 4 4) (g := g) (k := k) (sc := 4) (by rw [gu_nk (by decide)]; exact r1) (fun s hs => by rw [gu_ne (by decide)]; exact r4 s hs) hBd w3 hk k136 gu_eq (by rw [gu_nk (by decide)]; exact r6) (by rw [gu_nk (by decide)]; exact r7) (by rw [if_pos c]) lm
      refine ⟨im', ?_, (Fr.up1 (by decide)).tr h2, h3⟩
      rw [← h1]
      simp (decide := true) only [QX1_takeOperand, e136, e0, if_false, if_true, not_false_eq_true, not_true_eq_false]
    · have e0 : ¬ im 5 4 = 0 := by rw [r5]; exact nI_ne0 (by omega) (by omega)
      obtain ⟨im', h1, h2, h3⟩ := C_operand2 (im := im) (g := g) (k := k) (sc := g.sc) r1 r4 hBd w3 hk k136 r5 r6 r7 (by rw [if_neg c]) lm
      refine ⟨im', ?_, h2, h3⟩
      rw [← h1]
      simp (decide := true) only [QX1_takeOperand, e136, e0, if_false, if_true, not_false_eq_true, not_true_eq_false]
theorem C_operator (hR : gR im g) (hB : gBd g) (w4 : g.w = 4) (hk : k < 148) (lm : gm_L) : ∃ im', gm_den 34 0 [.ref 5, .int (nI k)] [] 128 gm_RF im lm = some (some (.int (nI (gf g k))), 128, gm_RF, im', lm) ∧ Fr [5, 6] im im' ∧ (gf g k = 0 → gR im' (gn g k)) := by
  obtain ⟨r1, r2, r3, r4⟩ := hR
  obtain ⟨r5, r6, r7⟩ := r3 (by omega)
  obtain ⟨b1, b2, b3, b4, b5, b6, b7⟩ := hB
  have hf : gf g k = cond (gOpr k) 0 (if 0 < g.op then (if k = 41 then 0 else 1) else if k = gCls g.sc then 0 else 1) := by unfold gf; rw [if_neg (by omega), if_neg (by omega), if_neg (by omega), if_neg (by omega)]
  have hn : gn g k = cond (gOpr k) (GS.mk 3 g.nm g.it g.sc g.op g.fi g.tm) (if 0 < g.op then (GS.mk g.w g.nm g.it g.sc (g.op - 1) g.fi g.tm) else if g.sc = 1 then (GS.mk 3 g.nm g.it 2 g.op g.fi g.tm) else if g.sc = 2 then (GS.mk 3 g.nm g.it 3 g.op g.fi g.tm) else if g.sc = 3 then (GS.mk 3 g.nm g.it 0 g.op g.fi g.tm) else (GS.mk 0 g.nm g.it g.sc g.op g.fi g.tm)) := by unfold gn; rw [if_neg (by omega), if_neg (by omega), if_neg (by omega), if_neg (by omega)]
  rw [hf, hn]
  cases ho : gOpr k with
  | true =>
    have hop : k = 43 ∨ k = 45 ∨ k = 42 ∨ k = 47 := by
      unfold gOpr at ho
      simp only [Bool.or_eq_true, beq_iff_eq] at ho
      omega
    simp only [cond_true]
    refine ⟨gm_up im 5 1 3, ?_, Fr.up1 (by decide), fun _ => ⟨gu_eq, fun h => (by cases h), fun _ => ⟨?_, ?_, ?_⟩, fun s hs => ?_⟩⟩
    · rcases hop with e | e | e | e
      · have e' : nI k = 43 := by rw [e]; rfl
        simp (decide := true) only [QX1_takeOperator, e', if_true, if_false]; rfl
      · have e' : nI k = 45 := by rw [e]; rfl
        simp (decide := true) only [QX1_takeOperator, e', if_true, if_false]; rfl
      · have e' : nI k = 42 := by rw [e]; rfl
        simp (decide := true) only [QX1_takeOperator, e', if_true, if_false]; rfl
      · have e' : nI k = 47 := by rw [e]; rfl
        simp (decide := true) only [QX1_takeOperator, e', if_true, if_false]; rfl
    · rw [gu_nk (by decide)]; exact r5
    · rw [gu_nk (by decide)]; exact r6
    · rw [gu_nk (by decide)]; exact r7
    · rw [gu_ne (by decide)]; exact r4 s hs
  | false =>
    have hop : ¬ (k = 43 ∨ k = 45 ∨ k = 42 ∨ k = 47) := by
      intro h
      unfold gOpr at ho
      rcases h with e | e | e | e <;> (subst e; cases ho)
    have n1 : ¬ nI k = 43 := fun h => hop (Or.inl ((nK_eq (by omega) (by decide)).mp h))
    have n2 : ¬ nI k = 45 := fun h => hop (Or.inr (Or.inl ((nK_eq (by omega) (by decide)).mp h)))
    have n3 : ¬ nI k = 42 := fun h => hop (Or.inr (Or.inr (Or.inl ((nK_eq (by omega) (by decide)).mp h))))
    have n4 : ¬ nI k = 47 := fun h => hop (Or.inr (Or.inr (Or.inr ((nK_eq (by omega) (by decide)).mp h))))
    simp only [cond_false]
    by_cases c : 0 < g.op
    · have e1 : ¬ nI g.op ≤ 0 := nI_nle c (by omega)
      have e2 : nI g.op - 1 = nI (g.op - 1) := nI_m1 c
      rw [if_pos c, if_pos c]
      refine ⟨gm_up im 5 5 (nI (g.op - 1)), ?_, Fr.up1 (by decide), fun _ => ⟨?_, fun h => absurd (show g.w = 1 from h) (by omega), fun _ => ⟨?_, gu_eq, ?_⟩, fun s hs => ?_⟩⟩
      · by_cases c2 : k = 41
        · have e' : nI k = 41 := by rw [c2]; rfl
          rw [if_pos c2]
          simp (decide := true) only [QX1_takeOperator, e', r6, e1, e2, if_true, if_false, not_false_eq_true]; rfl
        · have e' : ¬ nI k = 41 := fun h => c2 ((nK_eq (by omega) (by decide)).mp h)
          rw [if_neg c2]
          simp (decide := true) only [QX1_takeOperator, n1, n2, n3, n4, e', r6, e1, e2, if_true, if_false, not_false_eq_true]; rfl
      · rw [gu_nk (by decide)]; exact r1
      · rw [gu_nk (by decide)]; exact r5
      · rw [gu_nk (by decide)]; exact r7
      · rw [gu_ne (by decide)]; exact r4 s hs
    · have e1 : im 5 5 ≤ 0 := by rw [r6, show g.op = 0 by omega]; decide
      rw [if_neg c, if_neg c]
      have e5 : gm_up im 5 1 3 5 4 = nI g.sc := by rw [gu_nk (by decide)]; exact r5
      by_cases c1 : g.sc = 1
      · have e5' : gm_up im 5 1 3 5 4 = 1 := by rw [e5, c1]; rfl
        rw [if_pos c1]
        refine ⟨gm_up (gm_up im 5 1 3) 5 4 2, ?_, (Fr.up1 (by decide)).up (by decide), fun _ => ⟨?_, fun h => (by cases h), fun _ => ⟨gu_eq, ?_, ?_⟩, fun s hs => ?_⟩⟩
        · unfold gCls
          rw [if_pos c1]
          by_cases c2 : k = 60
          · have e' : nI k = 60 := by rw [c2]; rfl
            rw [if_pos c2]
            simp (decide := true) only [QX1_takeOperator, QX1_closeSection, e', e1, e5', gm_cont_i, if_true, if_false, not_false_eq_true, not_true_eq_false]; rfl
          · have e' : ¬ nI k = 60 := fun h => c2 ((nK_eq (by omega) (by decide)).mp h)
            rw [if_neg c2]
            simp (decide := true) only [QX1_takeOperator, QX1_closeSection, n1, n2, n3, n4, e', e1, e5', gm_cont_i, if_true, if_false, not_false_eq_true, not_true_eq_false]; rfl
        · rw [gu_nk (by decide)]; exact gu_eq
        · rw [gu_nk (by decide), gu_nk (by decide)]; exact r6
        · rw [gu_nk (by decide), gu_nk (by decide)]; exact r7
        · rw [gu_ne (by decide), gu_ne (by decide)]; exact r4 s hs
      · rw [if_neg c1]
        by_cases c2 : g.sc = 2
        · have e5' : gm_up im 5 1 3 5 4 = 2 := by rw [e5, c2]; rfl
          rw [if_pos c2]
          refine ⟨gm_up (gm_up im 5 1 3) 5 4 3, ?_, (Fr.up1 (by decide)).up (by decide), fun _ => ⟨?_, fun h => (by cases h), fun _ => ⟨gu_eq, ?_, ?_⟩, fun s hs => ?_⟩⟩
          · unfold gCls
            rw [if_neg c1, if_pos c2]
            by_cases c3 : k = 137
            · have e' : nI k = 137 := by rw [c3]; rfl
              rw [if_pos c3]
              simp (decide := true) only [QX1_takeOperator, QX1_closeSection, e', e1, e5', gm_cont_i, if_true, if_false, not_false_eq_true, not_true_eq_false]; rfl
            · have e' : ¬ nI k = 137 := fun h => c3 ((nK_eq (by omega) (by decide)).mp h)
              rw [if_neg c3]
              simp (decide := true) only [QX1_takeOperator, QX1_closeSection, n1, n2, n3, n4, e', e1, e5', gm_cont_i, if_true, if_false, not_false_eq_true, not_true_eq_false]; rfl
          · rw [gu_nk (by decide)]; exact gu_eq
          · rw [gu_nk (by decide), gu_nk (by decide)]; exact r6
          · rw [gu_nk (by decide), gu_nk (by decide)]; exact r7
          · rw [gu_ne (by decide), gu_ne (by decide)]; exact r4 s hs
        · rw [if_neg c2]
          by_cases c3 : g.sc = 3
          · have e5' : gm_up im 5 1 3 5 4 = 3 := by rw [e5, c3]; rfl
            rw [if_pos c3]
            refine ⟨gm_up (gm_up im 5 1 3) 5 4 0, ?_, (Fr.up1 (by decide)).up (by decide), fun _ => ⟨?_, fun h => (by cases h), fun _ => ⟨gu_eq, ?_, ?_⟩, fun s hs => ?_⟩⟩
            · unfold gCls
              rw [if_neg c1, if_neg c2, if_pos c3]
              by_cases c4 : k = 138
              · have e' : nI k = 138 := by rw [c4]; rfl
                rw [if_pos c4]
                simp (decide := true) only [QX1_takeOperator, QX1_closeSection, e', e1, e5', gm_cont_i, if_true, if_false, not_false_eq_true, not_true_eq_false]; rfl
              · have e' : ¬ nI k = 138 := fun h => c4 ((nK_eq (by omega) (by decide)).mp h)
                rw [if_neg c4]
                simp (decide := true) only [QX1_takeOperator, QX1_closeSection, n1, n2, n3, n4, e', e1, e5', gm_cont_i, if_true, if_false, not_false_eq_true, not_true_eq_false]; rfl
            · rw [gu_nk (by decide)]; exact gu_eq
            · rw [gu_nk (by decide), gu_nk (by decide)]; exact r6
            · rw [gu_nk (by decide), gu_nk (by decide)]; exact r7
            · rw [gu_ne (by decide), gu_ne (by decide)]; exact r4 s hs
          · rw [if_neg c3]
            have e6 : ((nI g.sc).toInt < 1 ∨ 3 < (nI g.sc).toInt) := by rw [nI_toInt (by omega)]; omega
            refine ⟨gm_up (gm_up im 5 1 3) 5 1 0, ?_, (Fr.up1 (by decide)).up (by decide), fun _ => ⟨gu_eq, fun h => (by cases h), fun h => absurd h (by show ¬ 3 ≤ 0; decide), fun s hs => ?_⟩⟩
            · unfold gCls
              rw [if_neg c1, if_neg c2, if_neg c3]
              by_cases c4 : k = 59
              · have e' : nI k = 59 := by rw [c4]; rfl
                rw [if_pos c4]
                simp (decide := true) only [QX1_takeOperator, QX1_closeSection, e', e1, e5, e6, gm_cont_i, if_true, if_false, not_false_eq_true, not_true_eq_false]; rfl
              · have e' : ¬ nI k = 59 := fun h => c4 ((nK_eq (by omega) (by decide)).mp h)
                rw [if_neg c4]
                simp (decide := true) only [QX1_takeOperator, QX1_closeSection, n1, n2, n3, n4, e', e1, e5, e6, gm_cont_i, if_true, if_false, not_false_eq_true, not_true_eq_false]; rfl
            · rw [gu_ne (by decide), gu_ne (by decide)]; exact r4 s hs
/-- what the grammar says of a token -/
theorem C_gram (hR : gR im g) (hB : gBd g) (hst : stR im) (hk : k < 148) (lm : gm_L) : ∃ im', gm_den 28 0 [.ref 5, .int (nI k)] [] 128 gm_RF im lm = some (some (.int (nI (gf g k))), 128, gm_RF, im', lm) ∧ Fr [5, 6] im im' ∧ (gf g k = 0 → gR im' (gn g k)) := by
  have hw := hB.1
  have hr := hR.1
  rcases (by omega : g.w = 0 ∨ g.w = 1 ∨ g.w = 2 ∨ g.w = 3 ∨ g.w = 4) with w | w | w | w | w
  · obtain ⟨im', h1, h2⟩ := C_open hR hB hst w hk lm
    have e : im 5 1 = 0 := by rw [hr, w]; rfl
    refine ⟨im', ?_, h2⟩
    simp (decide := true) only [QX1_faultOf, e, h1, gm_cont_i]
  · obtain ⟨im', h1, h2⟩ := C_field hR hB w hk lm
    have e : im 5 1 = 1 := by rw [hr, w]; rfl
    refine ⟨im', ?_, h2⟩
    simp (decide := true) only [QX1_faultOf, e, h1, gm_cont_i]
  · obtain ⟨im', h1, h2⟩ := C_equals hR w hk lm
    have e : im 5 1 = 2 := by rw [hr, w]; rfl
    refine ⟨im', ?_, h2⟩
    simp (decide := true) only [QX1_faultOf, e, h1, gm_cont_i]
  · obtain ⟨im', h1, h2⟩ := C_operand hR hB w hk lm
    have e : im 5 1 = 3 := by rw [hr, w]; rfl
    refine ⟨im', ?_, h2⟩
    simp (decide := true) only [QX1_faultOf, e, h1, gm_cont_i]
  · obtain ⟨im', h1, h2⟩ := C_operator hR hB w hk lm
    have e : im 5 1 = 4 := by rw [hr, w]; rfl
    have e2 : (((4 : Int32)).toInt < 0 ∨ 3 < ((4 : Int32)).toInt) := by decide
    refine ⟨im', ?_, h2⟩
    simp (decide := true) only [QX1_faultOf, e, e2, h1, gm_cont_i]
end
