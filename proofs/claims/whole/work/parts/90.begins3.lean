theorem M_begins {l nm : Nat} (hl2 : l < 2) (hm7 : nm ≤ 7) {im : gm_I} (h18 : im 84 18 = nI l) (h94 : im 94 l = nI nm) (lm : gm_L) : ∃ im', gm_den 205 0 [.ref 84, .null] [] 128 gm_RF im lm = some (none, 128, gm_RF, im', lm) ∧ (∀ q, q ≠ 117 → q ≠ 84 → im' q = im q) ∧ (∀ k, k ≠ 51 → im' 84 k = im 84 k) ∧ im' 84 51 = im 103 l ∧ (∀ b, b < 7 → begV im l nm (im' 117) b) ∧ (∀ m, m < 5 → im' 117 (70 + m) = -2) ∧ (∀ b, b < 7 → im' 117 (28 + b) = 0 ∧ im' 117 (35 + b) = 0 ∧ im' 117 (56 + b) = 0 ∧ im' 117 (63 + b) = 0) ∧ im' 117 75 = 0 ∧ im' 117 76 = 0 := by
  obtain ⟨i1, a1, a2, a3⟩ := M_begins_a lm 80 0 im (by decide)
  obtain ⟨i2, b1, b2, b3, b4⟩ := M_begins_b hl2 hm7 lm 7 0 i1 (by decide) (by rw [a3 84 (by decide)]; exact h18) (by rw [a3 94 (by decide)]; exact h94)
  obtain ⟨i3, c1, c2, c3⟩ := M_begins_c hl2 lm 5 0 i2 (by decide) (by rw [b2 84 (by decide), a3 84 (by decide)]; exact h18)
  have e103 : i2 103 = im 103 := by rw [b2 103 (by decide), a3 103 (by decide)]
  rw [e103] at c1
  have r3 : ∀ j, gm_up i3 84 51 (im 103 l) 117 j = i3 117 j := fun j => gu_ne (by decide)
  have z : ∀ j, j < 80 → (∀ b, b < 7 → begK b j) → ¬ (70 ≤ j ∧ j < 75) → gm_up i3 84 51 (im 103 l) 117 j = 0 := fun j hj hk hn => by
    rw [r3, c2 j, if_neg (by omega), b4 j (fun b _ h => hk b h), a2 j hj, if_pos (Nat.zero_le _)]
  refine ⟨gm_up i3 84 51 (im 103 l), ?_, fun q h1 h2 => ?_, fun k hk => ?_, gu_eq, fun b hb => ?_, fun m hm => ?_, fun b hb => ⟨?_, ?_, ?_, ?_⟩, ?_, ?_⟩
  · refine Eq.trans ?_ (a1.trans (b1.trans c1))
    simp (decide := true) only [QX12_begins]
    rfl
  · rw [gu_row h2, c3 q (by simp [h1]), b2 q (by simp [h1]), a3 q (by simp [h1])]
  · rw [gu_nk hk, c3 84 (by decide), b2 84 (by decide), a3 84 (by decide)]
  · have h := b3 b (Nat.zero_le _) hb
    unfold begV at h ⊢
    rw [a3 95 (by decide), a3 98 (by decide)] at h
    obtain ⟨h0, h1, h2, h3, h4, h5⟩ := h
    refine ⟨?_, ?_, ?_, ?_, ?_, ?_⟩
    · rw [r3, c2, if_neg (by omega)]; exact h0
    · rw [r3, c2, if_neg (by omega)]; exact h1
    · rw [r3, c2, if_neg (by omega)]; exact h2
    · rw [r3, c2, if_neg (by omega)]; exact h3
    · rw [r3, c2, if_neg (by omega)]; exact h4
    · rw [r3, c2, if_neg (by omega)]; exact h5
  · rw [r3, c2, if_pos (by omega)]
  · exact z _ (by omega) (fun c hc => ⟨by omega, by omega, by omega, by omega, by omega, by omega⟩) (by omega)
  · exact z _ (by omega) (fun c hc => ⟨by omega, by omega, by omega, by omega, by omega, by omega⟩) (by omega)
  · exact z _ (by omega) (fun c hc => ⟨by omega, by omega, by omega, by omega, by omega, by omega⟩) (by omega)
  · exact z _ (by omega) (fun c hc => ⟨by omega, by omega, by omega, by omega, by omega, by omega⟩) (by omega)
  · exact z _ (by omega) (fun c hc => ⟨by omega, by omega, by omega, by omega, by omega, by omega⟩) (by omega)
  · exact z _ (by omega) (fun c hc => ⟨by omega, by omega, by omega, by omega, by omega, by omega⟩) (by omega)
