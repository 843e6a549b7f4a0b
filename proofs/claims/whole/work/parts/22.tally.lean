/-! sums and means of small numbers; the reference's best side -/
theorem nI_div {a b : Nat} (ha : a < 2 ^ 31) (h0 : 0 < b) (hb : b < 2 ^ 31) : nI a / nI b = nI (a / b) := by
  have hab : a / b ≤ a := Nat.div_le_self a b
  apply Int32.toInt_inj.mp
  rw [Int32.toInt_div, nI_toInt ha, nI_toInt hb, nI_toInt (by omega)]
  rw [← Int.ofNat_tdiv]
  generalize a / b = q at *
  rw [Int.bmod_def]
  have : (q : Int) % ((2 ^ 32 : Nat) : Int) = (q : Int) := by
    apply Int.emod_eq_of_lt <;> omega
  rw [this]
  split <;> omega
theorem nI_sub {a b : Nat} (h : b ≤ a) : nI a - nI b = nI (a - b) := by
  have : nI a = nI (a - b) + nI b := by rw [nI_add]; congr 1; omega
  rw [this, Int32.add_sub_cancel]
theorem nI_mod {a b : Nat} (ha : a < 2 ^ 31) (h0 : 0 < b) (hb : b < 2 ^ 31) : nI a - nI a / nI b * nI b = nI (a % b) := by
  rw [nI_div ha h0 hb, nI_mul, nI_sub (by rw [Nat.mul_comm]; exact Nat.mul_div_le a b)]
  congr 1
  have := Nat.div_add_mod a b
  rw [Nat.mul_comm] at this
  omega
/-- the mean, 420 times -/
def gMean (S N : Nat → Nat) (s : Nat) : Nat := S s * 420 / N s
theorem mean_lt {S N : Nat → Nat} {s b : Nat} (h1 : 0 < N s) (h2 : N s ≤ 7) (h3 : 0 < N b) (h4 : N b ≤ 7) : gMean S N b < gMean S N s ↔ S b * N s < S s * N b := by
  unfold gMean
  generalize N s = x at *
  generalize N b = y at *
  generalize S s = u
  generalize S b = v
  have hx : x = 1 ∨ x = 2 ∨ x = 3 ∨ x = 4 ∨ x = 5 ∨ x = 6 ∨ x = 7 := by omega
  have hy : y = 1 ∨ y = 2 ∨ y = 3 ∨ y = 4 ∨ y = 5 ∨ y = 6 ∨ y = 7 := by omega
  rcases hx with rfl | rfl | rfl | rfl | rfl | rfl | rfl <;> rcases hy with rfl | rfl | rfl | rfl | rfl | rfl | rfl <;> omega
def gb (S N : Nat → Nat) : Nat → Option Nat
  | 0 => none
  | s + 1 => match gb S N s with
    | none => if 0 < N s then some s else none
    | some b => if 0 < N s ∧ S b * N s < S s * N b then some s else some b
def eO : Option Nat → Int32
  | none => -2
  | some s => nI s
theorem gb_some {S N : Nat → Nat} {s b : Nat} (h : gb S N s = some b) : b < s ∧ 0 < N b := by
  induction s generalizing b with
  | zero => cases h
  | succ s ih =>
    simp only [gb] at h
    cases hg : gb S N s with
    | none =>
      rw [hg] at h
      by_cases hN : 0 < N s
      · simp only [hN, if_true] at h; cases h; exact ⟨by omega, hN⟩
      · simp only [hN, if_false] at h; cases h
    | some c =>
      rw [hg] at h
      simp only [] at h
      have hc := ih hg
      by_cases hN : 0 < N s ∧ S c * N s < S s * N c
      · rw [if_pos hN] at h; cases h; exact ⟨by omega, hN.1⟩
      · rw [if_neg hN] at h; cases h; exact ⟨by omega, hc.2⟩
/-- sums as they lie in the reference's rows -/
def tally (im : gm_I) (S N : Nat → Nat) : Prop := ∀ s, s < 3 → im 118 s = nI (S s) ∧ im 119 s = nI (N s) ∧ S s ≤ 504 ∧ N s ≤ 7
theorem M_meanOf {im : gm_I} {S N : Nat → Nat} (h : tally im S N) {s : Nat} (hs : s < 3) (h0 : 0 < N s) (lm : gm_L) : gm_den 221 0 [.ref 84, .int (nI s)] [] 128 gm_RF im lm = some (some (.int (nI (gMean S N s))), 128, gm_RF, im, lm) := by
  obtain ⟨h1, h2, h3, h4⟩ := h s hs
  have hz : ¬ nI (N s) = 0 := nI_ne0 h0 (by omega)
  simp only [QX12_meanOf, i3s s hs, if_true, if_false, h1, h2, hz]
  rw [show (420 : Int32) = nI 420 from rfl, nI_mul, nI_div (by omega) h0 (by omega)]
  rfl
theorem gMean_le {S N : Nat → Nat} {s : Nat} (h : S s ≤ 504) : gMean S N s ≤ 211680 := by
  unfold gMean
  exact Nat.le_trans (Nat.div_le_self _ _) (by omega)
theorem M_best_loop {im : gm_I} {S N : Nat → Nat} (h : tally im S N) (lm : gm_L) : ∀ (w s : Nat), s + w = 3 → gm_den 222 5 [.ref 84, .int (eO (gb S N s)), .int (nI s)] [] 128 gm_RF im lm = some (some (.int (eO (gb S N 3))), 128, gm_RF, im, lm) := by
  intro w
  induction w with
  | zero =>
    intro s hs
    have : s = 3 := by omega
    subst this
    rw [LX12_bestSide_5]
    simp (decide := true) only [QX12_bestSide, if_true]
  | succ w ih =>
    intro s hs
    have ih1 := ih (s + 1) (by omega)
    have hs3 : s < 3 := by omega
    obtain ⟨h1, h2, h3, h4⟩ := h s hs3
    have hlt : ¬ (3 : Int32) ≤ nI s := nI_ge (b := 3) hs3 (by decide)
    rw [LX12_bestSide_5]
    by_cases hN : 0 < N s
    · have hle : ¬ nI (N s) ≤ 0 := nI_nle hN (by omega)
      cases hg : gb S N s with
      | none =>
        simp only [gb, hg, hN, if_true] at ih1
        simp (decide := true) only [QX12_bestSide, hlt, if_true, if_false, i3s s hs3, h2, hle, eO, gm_cat_i, nI_a1]
        exact ih1
      | some b =>
        obtain ⟨hb1, hb2⟩ := gb_some hg
        have hb3 : b < 3 := by omega
        have hbn : ¬ nI b < 0 := nI_nlt (Nat.zero_le b) (by omega)
        have hm1 := M_meanOf h hs3 hN lm
        have hm2 := M_meanOf h hb3 hb2 lm
        have g1 := gMean_le (N := N) h3
        have g2 := gMean_le (N := N) (h b hb3).2.2.1
        have hc := mean_lt (S := S) hN h4 hb2 (h b hb3).2.2.2
        by_cases hcmp : S b * N s < S s * N b
        · have hx : ¬ nI (gMean S N s) ≤ nI (gMean S N b) := nI_ge (hc.mpr hcmp) (by omega)
          simp only [gb, hg, hN, hcmp, if_true, and_self] at ih1
          simp only [QX12_bestSide, hlt, if_true, if_false, i3s s hs3, h2, hle, eO, gm_cat_i, nI_a1, hbn, hm1, hm2, gm_cont_i, hx]
          exact ih1
        · have hx : nI (gMean S N s) ≤ nI (gMean S N b) := nI_le (by omega) (by omega)
          simp only [gb, hg, hcmp, if_false, and_false] at ih1
          simp only [QX12_bestSide, hlt, if_true, if_false, i3s s hs3, h2, hle, eO, gm_cat_i, nI_a1, hbn, hm1, hm2, gm_cont_i, hx]
          exact ih1
    · have h0 : N s = 0 := by omega
      have hle : nI (N s) ≤ 0 := by rw [h0]; decide
      have ge : gb S N (s + 1) = gb S N s := by
        simp only [gb, hN]
        cases gb S N s <;> simp
      rw [ge] at ih1
      simp only [QX12_bestSide, hlt, if_true, if_false, i3s s hs3, h2, hle, nI_a1]
      exact ih1
theorem M_bestSide {im : gm_I} {S N : Nat → Nat} (h : tally im S N) (lm : gm_L) : gm_den 222 0 [.ref 84, .null, .null] [] 128 gm_RF im lm = some (some (.int (eO (gb S N 3))), 128, gm_RF, im, lm) := by
  have h1 := M_best_loop h lm 3 0 (by omega)
  simp only [QX12_bestSide, gm_cat_i, gm_cat_n, gm_cat_r]
  exact h1
