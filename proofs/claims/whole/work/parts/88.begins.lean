/-! the reference's row as it begins -/
theorem ixr0 (a : Nat) (ha : a < 7) : gm_in (nI a) 80 = true ∧ (nI a).toNatClampNeg = a := i80n a (by omega)
theorem ix714 (l a : Nat) (hl : l < 2) (ha : a < 7) : gm_in (7 * nI l + nI a) 14 = true ∧ (7 * nI l + nI a).toNatClampNeg = 7 * l + a :=
  ix_nat (7 * l + a) (by rw [show (7 : Int32) = nI 7 from rfl, nI_mul, nI_add]) (by omega) (by decide)
theorem M_begins_a (lm : gm_L) : ∀ (w k : Nat) (im : gm_I), k + w = 80 → ∃ im', gm_den 205 2 [.ref 84, .int (nI k)] [] 128 gm_RF im lm = gm_den 205 23 [.ref 84, .int (nI 0)] [] 128 gm_RF im' lm ∧ (∀ j, j < 80 → im' 117 j = if k ≤ j then 0 else im 117 j) ∧ Fr [117] im im' := by
  intro w
  induction w with
  | zero =>
    intro k im hw
    have : k = 80 := by omega
    subst this
    have hle : (80 : Int32) ≤ nI 80 := by decide
    refine ⟨im, ?_, fun j hj => by rw [if_neg (by omega)], Fr.rf _ _⟩
    rw [LX12_begins_2]
    simp (decide := true) only [QX12_begins, hle, if_true]
    rfl
  | succ w ih =>
    intro k im hw
    have hlt : ¬ (80 : Int32) ≤ nI k := nI_ge (b := 80) (by omega) (by decide)
    obtain ⟨im', h1, h2, h3⟩ := ih (k + 1) (gm_up im 117 k 0) (by omega)
    refine ⟨im', ?_, fun j hj => ?_, Fr.tr ((Fr.rf _ im).up (by simp)) h3⟩
    · rw [← h1, LX12_begins_2]
      simp only [QX12_begins, hlt, if_false, i80n k (show k < 80 by omega), if_true, nI_a1]
    · rw [h2 j hj]
      by_cases e : j = k
      · subst e; rw [if_neg (by omega), gu_eq, if_pos (Nat.le_refl _)]
      · by_cases hl : k ≤ j
        · rw [if_pos (by omega), if_pos hl]
        · rw [if_neg (by omega), if_neg hl, gu_nk e]
theorem M_begins_c {l : Nat} (hl2 : l < 2) (lm : gm_L) : ∀ (w m : Nat) (im : gm_I), m + w = 5 → im 84 18 = nI l → ∃ im', gm_den 205 158 [.ref 84, .int (nI m)] [] 128 gm_RF im lm = some (none, 128, gm_RF, gm_up im' 84 51 (im 103 l), lm) ∧ (∀ j, im' 117 j = if 70 + m ≤ j ∧ j < 75 then -2 else im 117 j) ∧ Fr [117] im im' := by
  intro w
  induction w with
  | zero =>
    intro m im hw h18
    have : m = 5 := by omega
    subst this
    have hle : (5 : Int32) ≤ nI 5 := by decide
    refine ⟨im, ?_, fun j => by rw [if_neg (by omega)], Fr.rf _ _⟩
    rw [LX12_begins_158]
    simp (decide := true) only [QX12_begins, hle, if_true, h18, i2 l hl2]
  | succ w ih =>
    intro m im hw h18
    have hlt : ¬ (5 : Int32) ≤ nI m := nI_ge (b := 5) (by omega) (by decide)
    obtain ⟨im', h1, h2, h3⟩ := ih (m + 1) (gm_up im 117 (70 + m) (-2)) (by omega) (by rw [gu_ne (by decide)]; exact h18)
    rw [gu_ne (by decide)] at h1
    refine ⟨im', ?_, fun j => ?_, Fr.tr ((Fr.rf _ im).up (by simp)) h3⟩
    · rw [← h1, LX12_begins_158]
      simp only [QX12_begins, hlt, if_false, ix70r m (by omega), if_true, nI_a1]
    · rw [h2 j]
      by_cases e : j = 70 + m
      · subst e; rw [if_neg (by omega), gu_eq, if_pos (by omega)]
      · by_cases hl : 70 + m ≤ j ∧ j < 75
        · rw [if_pos (by omega), if_pos hl]
        · rw [if_neg (by omega), if_neg hl, gu_nk e]
