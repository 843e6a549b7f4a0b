/-! the sense of a text -/
section
variable {K V : Nat → Nat} {b : GS} {N : Nat}
theorem okT_s {t : Nat} (hok : okT K b N) (hw : (gst K b N).w = 0) (ht : t ≤ N) (h : ¬ (gst K b t).w = 0) : t < N := by
  apply Classical.byContradiction
  intro hc
  have : t = N := by omega
  subst this
  exact h hw
theorem fld_i (hok : okT K b N) (hw : (gst K b N).w = 0) : ∀ (i t : Nat), t ≤ N → (gst K b t).w = 1 → (gst K b t).nm = 0 → (gst K b t).it = i → t + i < N ∧ (∀ j, j < i → K (t + j) = 2) ∧ K (t + i) = 59 := by
  intro i
  induction i with
  | zero =>
    intro t ht h1 h2 h3
    have hlt := okT_s hok hw ht (by omega)
    have hf := (hok.2 t hlt).2
    unfold gf at hf
    rw [if_neg (by omega), if_pos h1, if_neg (by omega), if_neg (by omega)] at hf
    refine ⟨by omega, fun j hj => absurd hj (Nat.not_lt_zero _), ?_⟩
    show K t = 59
    apply Classical.byContradiction
    intro e
    rw [if_neg e] at hf
    cases hf
  | succ i ih =>
    intro t ht h1 h2 h3
    have hlt := okT_s hok hw ht (by omega)
    have hf := (hok.2 t hlt).2
    unfold gf at hf
    rw [if_neg (by omega), if_pos h1, if_neg (by omega), if_pos (by omega)] at hf
    have hk : K t = 2 := by
      apply Classical.byContradiction
      intro e
      rw [if_neg e] at hf
      cases hf
    have hg : gst K b (t + 1) = (GS.mk (gst K b t).w (gst K b t).nm ((gst K b t).it - 1) (gst K b t).sc (gst K b t).op (gst K b t).fi (gst K b t).tm) := by
      show gn (gst K b t) (K t) = _
      unfold gn
      rw [if_neg (by omega), if_pos h1, if_neg (by omega), if_pos (by omega)]
    obtain ⟨a1, a2, a3⟩ := ih (t + 1) (by omega) (by rw [hg]; exact h1) (by rw [hg]; exact h2) (by rw [hg, GS_it]; omega)
    refine ⟨by omega, fun j hj => ?_, by rw [show t + (i + 1) = t + 1 + i by omega]; exact a3⟩
    by_cases hj0 : j = 0
    · subst hj0; exact hk
    · have := a2 (j - 1) (by omega)
      rw [show t + 1 + (j - 1) = t + j by omega] at this
      exact this
/-- a tell of numbers stands there whole -/
theorem fld (hok : okT K b N) (hw : (gst K b N).w = 0) {t s : Nat} (ht : t < N) (h0 : (gst K b t).w = 0) (hk : K t = 128 + s) (hs : s < 5) : t + 1 + gNa s + gIn s < N ∧ (gNa s = 1 → K (t + 1) = 1) ∧ (∀ i, i < gIn s → K (t + 1 + gNa s + i) = 2) ∧ K (t + 1 + gNa s + gIn s) = 59 := by
  have hg : gst K b (t + 1) = (GS.mk 1 (gNa s) (gIn s) (gst K b t).sc (gst K b t).op (gst K b t).fi (udN (gst K b t).tm s ((gst K b t).tm s + 1))) := by
    show gn (gst K b t) (K t) = _
    unfold gn
    rw [if_pos h0, hk, if_neg (by omega), Nat.add_sub_cancel_left]
  have hn1 : gNa s = 0 ∨ gNa s = 1 := by
    have : gNa s ≤ 1 := by unfold gNa; split; decide; split; decide; split <;> decide
    omega
  rcases hn1 with hn | hn
  · obtain ⟨a1, a2, a3⟩ := fld_i hok hw (gIn s) (t + 1) (by omega) (by rw [hg]; rfl) (by rw [hg, GS_nm]; exact hn) (by rw [hg, GS_it])
    rw [hn]
    exact ⟨a1, fun h => (by cases h), a2, a3⟩
  · have hlt : t + 1 < N := okT_s hok hw (by omega) (by rw [hg, GS_w]; decide)
    have hf := (hok.2 (t + 1) hlt).2
    rw [hg] at hf
    unfold gf at hf
    rw [GS_w, GS_nm, if_neg (by decide), if_pos rfl, hn, if_pos (by decide)] at hf
    have hk1 : K (t + 1) = 1 := by
      apply Classical.byContradiction
      intro e
      rw [if_neg e] at hf
      cases hf
    have hg2 : gst K b (t + 1 + 1) = (GS.mk 1 0 (gIn s) (gst K b t).sc (gst K b t).op (gst K b t).fi (udN (gst K b t).tm s ((gst K b t).tm s + 1))) := by
      show gn (gst K b (t + 1)) (K (t + 1)) = _
      rw [hg]
      unfold gn
      rw [GS_w, GS_nm, if_neg (by decide), if_pos rfl, hn, if_pos (by decide)]
      rfl
    obtain ⟨a1, a2, a3⟩ := fld_i hok hw (gIn s) (t + 1 + 1) (by omega) (by rw [hg2]; rfl) (by rw [hg2]; rfl) (by rw [hg2]; rfl)
    rw [hn]
    exact ⟨a1, fun _ => hk1, a2, a3⟩
end
section
variable (K V : Nat → Nat)
/-- the farthest side that is told -/
def frT : Nat → Nat
  | 0 => 0
  | t + 1 => cond (tS K t && (K t == 129 || K t == 131)) (max (frT t) (V (t + 2))) (frT t)
end
section
variable {K V : Nat → Nat}
theorem frT_iff {c : Nat} (hc : 0 < c) : ∀ t : Nat, frT K V t < c ↔ (∀ a, a < (foA K V t).nm → V ((foA K V t).mi a + 2) < c) ∧ (∀ j, j < (foA K V t).nj → V ((foA K V t).ji j + 2) < c) := by
  intro t
  induction t with
  | zero => exact ⟨fun _ => ⟨fun a h => absurd h (Nat.not_lt_zero _), fun a h => absurd h (Nat.not_lt_zero _)⟩, fun _ => hc⟩
  | succ t ih =>
    show cond (tS K t && (K t == 129 || K t == 131)) (max (frT K V t) (V (t + 2))) (frT K V t) < c ↔ _
    have e2 : foA K V (t + 1) = cond (tS K t) (tlT K V (foA K V t) t) (foA K V t) := rfl
    rw [e2]
    cases hs : tS K t with
    | false => exact ih
    | true =>
      obtain ⟨w1, w2, w3, w4, w5, w6, w7, w8, w9⟩ := tlW_n K V (foA K V t) t
      simp only [Bool.true_and, cond_true]
      unfold tlT
      by_cases k1 : K t = 129
      · have hb : (K t == 129 || K t == 131) = true := by simp [k1]
        rw [hb, cond_true, if_neg (by omega), if_pos k1]
        simp only [TA_nm, TA_mi, TA_nj, TA_ji, w3, w8]
        constructor
        · intro h
          have h1 := ih.mp (by omega)
          refine ⟨fun a ha => ?_, h1.2⟩
          unfold udN
          by_cases ea : a = (foA K V t).nm
          · rw [if_pos ea]; omega
          · rw [if_neg ea]; exact h1.1 a (by omega)
        · intro ⟨h1, h2⟩
          have h3 := h1 (foA K V t).nm (by omega)
          unfold udN at h3
          rw [if_pos rfl] at h3
          have h4 := ih.mpr ⟨fun a ha => by
            have := h1 a (by omega)
            unfold udN at this
            rw [if_neg (by omega)] at this
            exact this, h2⟩
          omega
      · by_cases k2 : K t = 131
        · have hb : (K t == 129 || K t == 131) = true := by simp [k2]
          rw [hb, cond_true, if_neg (by omega), if_neg k1, if_neg (by omega), if_pos k2]
          simp only [TA_nm, TA_mi, TA_nj, TA_ji, w1, w6]
          constructor
          · intro h
            have h1 := ih.mp (by omega)
            refine ⟨h1.1, fun a ha => ?_⟩
            unfold udN
            by_cases ea : a = (foA K V t).nj
            · rw [if_pos ea]; omega
            · rw [if_neg ea]; exact h1.2 a (by omega)
          · intro ⟨h1, h2⟩
            have h3 := h2 (foA K V t).nj (by omega)
            unfold udN at h3
            rw [if_pos rfl] at h3
            have h4 := ih.mpr ⟨h1, fun a ha => by
              have := h2 a (by omega)
              unfold udN at this
              rw [if_neg (by omega)] at this
              exact this⟩
            omega
        · have hb : (K t == 129 || K t == 131) = false := by simp [k1, k2]
          rw [hb, cond_false, if_neg k1, if_neg k2]
          have key : ∀ A : TA, A.nm = (foA K V t).nm → A.mi = (foA K V t).mi → A.nj = (foA K V t).nj → A.ji = (foA K V t).ji → (frT K V t < c ↔ (∀ a, a < A.nm → V (A.mi a + 2) < c) ∧ (∀ j, j < A.nj → V (A.ji j + 2) < c)) := by
            intro A a1 a2 a3 a4
            rw [a1, a2, a3, a4]; exact ih
          split
          · exact key _ w1 w6 w3 w8
          · split
            · exact key _ w1 w6 w3 w8
            · split
              · exact key _ w1 w6 w3 w8
              · exact key _ w1 w6 w3 w8
theorem tlT_w (A : TA) (t : Nat) : (tlT K V A t).wk = (tlW K V A t).wk ∧ (tlT K V A t).wt = (tlW K V A t).wt := by
  unfold tlT
  split
  · exact ⟨rfl, rfl⟩
  · split
    · exact ⟨rfl, rfl⟩
    · split
      · exact ⟨rfl, rfl⟩
      · split
        · exact ⟨rfl, rfl⟩
        · split
          · exact ⟨rfl, rfl⟩
          · exact ⟨rfl, rfl⟩
theorem foA_wk {t : Nat} (h : ¬ (foA K V t).wk = 0) : ∀ d : Nat, (foA K V (t + d)).wk = (foA K V t).wk ∧ (foA K V (t + d)).wt = (foA K V t).wt := by
  intro d
  induction d with
  | zero => exact ⟨rfl, rfl⟩
  | succ d ih =>
    have e2 : foA K V (t + (d + 1)) = cond (tS K (t + d)) (tlT K V (foA K V (t + d)) (t + d)) (foA K V (t + d)) := rfl
    rw [e2]
    cases tS K (t + d) with
    | false => exact ih
    | true =>
      simp only [cond_true]
      rw [(tlT_w _ _).1, (tlT_w _ _).2]
      have : tlW K V (foA K V (t + d)) (t + d) = foA K V (t + d) := by
        unfold tlW
        rw [if_neg]
        intro hc
        rw [ih.1] at hc
        exact h hc.1
      rw [this]
      exact ih
theorem twc_mono {x : Nat} : ∀ {d i : Nat}, twc K V x i = true → twc K V x (i + d) = true := by
  intro d
  induction d with
  | zero => intro i h; exact h
  | succ d ih =>
    intro i h
    show (twc K V x (i + d) || _) = true
    rw [ih h]; rfl
end
theorem pkG_63 {b : Nat} {d : Nat → Nat} {k : Nat} (hb : 1 ≤ b) (h32 : b ≤ 32) (hk : k ≤ 8) (h : ∀ x, x < k → d x < b) : pkG b d k < 2 ^ 63 := by
  rcases pkG_lt h with e | e
  · have h1 : b ^ k ≤ b ^ 8 := Nat.pow_le_pow_right hb hk
    have h2 : b ^ 8 ≤ 32 ^ 8 := Nat.pow_le_pow_left h32 8
    have h3 : (32 : Nat) ^ 8 < 2 ^ 63 := by decide
    omega
  · rw [e]; show (0 : Nat) < 2 ^ 63; decide
theorem tkV_lt (tb : Nat → Nat) (n i : Nat) : tkV tb n i < 2 ^ 63 := by
  unfold tkV
  cases txL (tb i) with
  | true =>
    refine pkG_63 (by decide) (by decide) (by omega) (fun x hx => ?_)
    have := txL_r (txR_in (p := txL) (tb := tb) (n := n) (i := i) (j := i + x) (by omega) (by omega))
    show tb (i + x) - 96 < 32
    omega
  | false =>
    cases txD (tb i) with
    | true =>
      refine pkG_63 (by decide) (by decide) (by omega) (fun x hx => ?_)
      have := txD_r (txR_in (p := txD) (tb := tb) (n := n) (i := i) (j := i + x) (by omega) (by omega))
      show tb (i + x) - 48 < 10
      omega
    | false => show (0 : Nat) < 2 ^ 63; decide
theorem tkv_lt (tb : Nat → Nat) (n t : Nat) : tkv tb n t < 2 ^ 63 := tkV_lt _ _ _
/-- a number of at most four digits -/
theorem tkv_int {tb : Nat → Nat} {n t : Nat} (h : tkk tb n t = 2) : tkv tb n t ≤ 9999 := by
  unfold tkk tkK at h
  unfold tkv tkV
  by_cases hn : n ≤ tkP tb n t
  · rw [if_pos hn] at h; cases h
  · rw [if_neg hn] at h
    cases hL : txL (tb (tkP tb n t)) with
    | true =>
      rw [hL] at h
      simp only [cond_true] at h
      exfalso
      revert h
      split
      · intro h; cases h
      · unfold tkWd
        split
        · intro h; cases h
        · intro h; omega
    | false =>
      simp only [cond_false]
      cases hD : txD (tb (tkP tb n t)) with
      | true =>
        simp only [cond_true]
        have key : ∀ (d : Nat → Nat) (k : Nat), k ≤ 4 → (∀ x, x < k → d x < 10) → pkG 10 d k ≤ 9999 := by
          intro d k hk hd
          rcases pkG_lt hd with e | e
          · have : (10 : Nat) ^ k ≤ 10 ^ 4 := Nat.pow_le_pow_right (by decide) hk
            omega
          · rw [e]; exact Nat.zero_le _
        refine key _ _ (by omega) (fun x hx => ?_)
        have := txD_r (txR_in (p := txD) (tb := tb) (n := n) (i := tkP tb n t) (j := tkP tb n t + x) (by omega) (by omega))
        show tb (tkP tb n t + x) - 48 < 10
        omega
      | false => exact Nat.zero_le _
