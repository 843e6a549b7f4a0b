/-! bytes of a text, as both programs look at them -/
def byN (b : Nat) : Int32 := (nI b).toInt8.toInt32
theorem by_fin : ∀ b : Fin 256, ((byN b.val = 9 ↔ b.val = 9) ∧ (byN b.val = 10 ↔ b.val = 10) ∧ (byN b.val = 13 ↔ b.val = 13) ∧ (byN b.val = 32 ↔ b.val = 32)) ∧ (byN b.val &&& 255 = nI b.val) ∧ ((nI b.val).toUInt32 % 65536).toInt32 = nI b.val ∧ (txL b.val = true → ¬ byN b.val < 97 ∧ ¬ (122 : Int32) < byN b.val) ∧ (txL b.val = false → byN b.val < 97 ∨ (122 : Int32) < byN b.val) ∧ (txD b.val = true → ¬ byN b.val < 48 ∧ ¬ (57 : Int32) < byN b.val) ∧ (txD b.val = false → byN b.val < 48 ∨ (57 : Int32) < byN b.val) ∧ (b.val < 128 → byN b.val = nI b.val ∧ (nI b.val).toInt64 = Int64.ofNat b.val) := by decide +kernel
theorem C_isBlank {b : Nat} (hb : b < 256) (im : gm_I) (lm : gm_L) : gm_den 66 0 [.int (byN b)] [] 128 gm_RF im lm = some (some (.int (b32 (txB b))), 128, gm_RF, im, lm) := by
  obtain ⟨⟨h1, h2, h3, h4⟩, -⟩ := by_fin ⟨b, hb⟩
  simp only [] at h1 h2 h3 h4
  by_cases c1 : b = 9
  · have e := h1.mpr c1
    subst c1
    simp (decide := true) only [QX6_isBlank, e, if_true]; rfl
  · have n1 : ¬ byN b = 9 := fun e => c1 (h1.mp e)
    by_cases c2 : b = 10
    · have e := h2.mpr c2
      subst c2
      simp (decide := true) only [QX6_isBlank, e, if_true, if_false]; rfl
    · have n2 : ¬ byN b = 10 := fun e => c2 (h2.mp e)
      by_cases c3 : b = 13
      · have e := h3.mpr c3
        subst c3
        simp (decide := true) only [QX6_isBlank, e, if_true, if_false]; rfl
      · have n3 : ¬ byN b = 13 := fun e => c3 (h3.mp e)
        by_cases c4 : b = 32
        · have e := h4.mpr c4
          subst c4
          simp (decide := true) only [QX6_isBlank, e, if_true, if_false]; rfl
        · have n4 : ¬ byN b = 32 := fun e => c4 (h4.mp e)
          have : txB b = false := by unfold txB; simp [c1, c2, c3, c4]
          rw [this]
          simp (decide := true) only [QX6_isBlank, n1, n2, n3, n4, if_true, if_false, not_false_eq_true]; rfl
theorem C_isLetter {b : Nat} (hb : b < 256) (im : gm_I) (lm : gm_L) : gm_den 67 0 [.int (byN b)] [] 128 gm_RF im lm = some (some (.int (b32 (txL b))), 128, gm_RF, im, lm) := by
  obtain ⟨-, -, -, h1, h2, -⟩ := by_fin ⟨b, hb⟩
  simp only [] at h1 h2
  cases hc : txL b with
  | true =>
    obtain ⟨e1, e2⟩ := h1 hc
    simp (decide := true) only [QX6_isLetter, e1, e2, if_false]; rfl
  | false =>
    by_cases e1 : byN b < 97
    · simp (decide := true) only [QX6_isLetter, e1, if_true]; rfl
    · have e2 : (122 : Int32) < byN b := (h2 hc).resolve_left e1
      simp (decide := true) only [QX6_isLetter, e1, e2, if_true, if_false]; rfl
theorem C_isDigit {b : Nat} (hb : b < 256) (im : gm_I) (lm : gm_L) : gm_den 68 0 [.int (byN b)] [] 128 gm_RF im lm = some (some (.int (b32 (txD b))), 128, gm_RF, im, lm) := by
  obtain ⟨-, -, -, -, -, h1, h2, -⟩ := by_fin ⟨b, hb⟩
  simp only [] at h1 h2
  cases hc : txD b with
  | true =>
    obtain ⟨e1, e2⟩ := h1 hc
    simp (decide := true) only [QX6_isDigit, e1, e2, if_false]; rfl
  | false =>
    by_cases e1 : byN b < 48
    · simp (decide := true) only [QX6_isDigit, e1, if_true]; rfl
    · have e2 : (57 : Int32) < byN b := (h2 hc).resolve_left e1
      simp (decide := true) only [QX6_isDigit, e1, e2, if_true, if_false]; rfl
/-- where a byte stands among the signs -/
theorem C_sgn_loop {im : gm_I} (hsg : ∀ j, j < 9 → im 1021 j = sgT j) (x1 x2 : Int32) (c : Int32) (lm : gm_L) : ∀ w j : Nat, j + w = 9 → ∃ r : Int32, gm_den 292 7 [.ref 1021, .int x1, .int x2, .int 9, .int c, .int (nI j)] [] 128 gm_RF im lm = some (some (.int r), 128, gm_RF, im, lm) ∧ ((∃ i, j ≤ i ∧ i < 9 ∧ sgT i = c) ∧ 0 ≤ r ∨ (∀ i, j ≤ i → i < 9 → ¬ sgT i = c) ∧ ¬ 0 ≤ r) := by
  intro w
  induction w with
  | zero =>
    intro j hj
    have : j = 9 := by omega
    subst this
    refine ⟨-1, ?_, Or.inr ⟨fun i a b => by omega, by decide⟩⟩
    rw [LJ1_indexOfChar_4cfef_7]
    simp (decide := true) only [QJ1_indexOfChar_4cfef, if_true]
  | succ w ih =>
    intro j hj
    have hlt : ¬ (9 : Int32) ≤ nI j := nI_ge (b := 9) (by omega) (by decide)
    have hin : gm_in (nI j) 9 = true := gm_in_nI (by omega) (by decide)
    have hcl : (nI j).toNatClampNeg = j := nI_clamp (by omega)
    have hs := hsg j (by omega)
    by_cases hc : sgT j = c
    · refine ⟨nI j, ?_, Or.inl ⟨⟨j, Nat.le_refl _, by omega, hc⟩, nI_le (a := 0) (Nat.zero_le _) (by omega)⟩⟩
      rw [LJ1_indexOfChar_4cfef_7]
      simp (decide := true) only [QJ1_indexOfChar_4cfef, hlt, hin, hcl, hs, hc, if_true, if_false]
    · obtain ⟨r, h1, h2⟩ := ih (j + 1) (by omega)
      refine ⟨r, ?_, ?_⟩
      · rw [← h1, LJ1_indexOfChar_4cfef_7]
        simp (decide := true) only [QJ1_indexOfChar_4cfef, hlt, hin, hcl, hs, hc, if_true, if_false, nI_a1, not_false_eq_true]
      · rcases h2 with ⟨⟨i, a, b, d⟩, e⟩ | ⟨a, b⟩
        · exact Or.inl ⟨⟨i, by omega, b, d⟩, e⟩
        · refine Or.inr ⟨fun i p q => ?_, b⟩
          by_cases hi : i = j
          · subst hi; exact hc
          · exact a i (by omega) q
theorem sg_fin : ∀ b : Fin 256, (∃ i : Fin 9, sgT i.val = (nI b.val).toInt8.toInt32) ↔ ¬ tkSg b.val = 0 := by decide +kernel
theorem sg_byN : ∀ b : Fin 256, (¬ tkSg b.val = 0 → byN b.val = nI (tkSg b.val)) := by decide +kernel
theorem C_sgn {im : gm_I} (hsg : ∀ j, j < 9 → im 1021 j = sgT j) {b : Nat} (hb : b < 256) (lm : gm_L) : ∃ r : Int32, gm_den 283 0 [.ref 1011, .int (nI b)] [] 128 gm_RF im lm = some (some (.int r), 128, gm_RF, im, lm) ∧ (0 ≤ r ↔ ¬ tkSg b = 0) := by
  obtain ⟨r, h1, h2⟩ := C_sgn_loop hsg (nI b) 0 (nI b).toInt8.toInt32 lm 9 0 rfl
  have c0 : ¬ nI b < 0 := nI_pos (by omega)
  have c1 : ¬ (255 : Int32) < nI b := nI_nlt (a := 255) (by omega) (by omega)
  refine ⟨r, ?_, ?_⟩
  · have e : gm_den 292 0 [.ref 1021, .int (nI b), .int 0, .int 9, .null, .null] [] 128 gm_RF im lm = some (some (.int r), 128, gm_RF, im, lm) := by
      rw [← h1]
      simp (decide := true) only [QJ1_indexOfChar_4cfef]
      rfl
    have n8 : narrow .byte (.int 0) = .int 0 := rfl
    have s9 : (Int32.ofNat 9 >>> ((0 : Int32) &&& 31)) = 9 := by decide
    simp (decide := true) only [QJ0_indexOf_0f7a4, QJ0_indexOf_7cf53, QJ0_isLatin1_aae02, QJ0_length_8abf5, QJ0_coder_7d493, QJ1_indexOf_4cfef, QJ1_canEncode_9a6ad, gm_cont_i, if_true, if_false, c0, c1, n8, s9, e, not_true_eq_false, not_false_eq_true]
  · have hf := sg_fin ⟨b, hb⟩
    simp only [] at hf
    rw [← hf]
    rcases h2 with ⟨⟨i, -, hi, e⟩, h3⟩ | ⟨h3, h4⟩
    · exact ⟨fun _ => ⟨⟨i, hi⟩, e⟩, fun _ => h3⟩
    · refine ⟨fun h => absurd h h4, fun ⟨i, e⟩ => absurd e (h3 i.val (Nat.zero_le _) i.isLt)⟩
