def begK (a j : Nat) : Prop := j ≠ a ∧ j ≠ 7 + a ∧ j ≠ 14 + a ∧ j ≠ 21 + a ∧ j ≠ 42 + a ∧ j ≠ 49 + a
def begV (im : gm_I) (l nm : Nat) (r : Nat → Int32) (b : Nat) : Prop := r b = (if b < nm then im 95 (7 * l + b) else 0) ∧ r (7 + b) = -2 ∧ r (14 + b) = (if b < nm then im 98 (7 * l + b) else 0) ∧ r (21 + b) = -2 ∧ r (42 + b) = -2 ∧ r (49 + b) = -2
theorem M_begins_b {l nm : Nat} (hl2 : l < 2) (hm7 : nm ≤ 7) (lm : gm_L) : ∀ (w a : Nat) (im : gm_I), a + w = 7 → im 84 18 = nI l → im 94 l = nI nm → ∃ im', gm_den 205 23 [.ref 84, .int (nI a)] [] 128 gm_RF im lm = gm_den 205 158 [.ref 84, .int (nI 0)] [] 128 gm_RF im' lm ∧ Fr [117] im im' ∧ (∀ b, a ≤ b → b < 7 → begV im l nm (im' 117) b) ∧ ∀ j, (∀ b, a ≤ b → b < 7 → begK b j) → im' 117 j = im 117 j := by
  intro w
  induction w with
  | zero =>
    intro a im hw h18 h94
    have : a = 7 := by omega
    subst this
    have hle : (7 : Int32) ≤ nI 7 := by decide
    refine ⟨im, ?_, Fr.rf _ _, fun b h1 h2 => by omega, fun _ _ => rfl⟩
    rw [LX12_begins_23]
    simp (decide := true) only [QX12_begins, hle, if_true]
    rfl
  | succ w ih =>
    intro a im hw h18 h94
    have ha : a < 7 := by omega
    have hlt : ¬ (7 : Int32) ≤ nI a := nI_ge (b := 7) (by omega) (by decide)
    have key : ∀ sd co : Int32, sd = (if a < nm then im 95 (7 * l + a) else 0) → co = (if a < nm then im 98 (7 * l + a) else 0) → ∃ im', gm_den 205 23 [.ref 84, .int (nI (a + 1))] [] 128 gm_RF (gm_up (gm_up (gm_up (gm_up (gm_up (gm_up im 117 a sd) 117 (7 + a) (-2)) 117 (14 + a) co) 117 (21 + a) (-2)) 117 (42 + a) (-2)) 117 (49 + a) (-2)) lm = gm_den 205 158 [.ref 84, .int (nI 0)] [] 128 gm_RF im' lm ∧ Fr [117] im im' ∧ (∀ b, a ≤ b → b < 7 → begV im l nm (im' 117) b) ∧ ∀ j, (∀ b, a ≤ b → b < 7 → begK b j) → im' 117 j = im 117 j := by
      intro sd co hsd hco
      let im1 := gm_up (gm_up (gm_up (gm_up (gm_up (gm_up im 117 a sd) 117 (7 + a) (-2)) 117 (14 + a) co) 117 (21 + a) (-2)) 117 (42 + a) (-2)) 117 (49 + a) (-2)
      have F1 : Fr [117] im im1 := ((((((Fr.rf [117] im).up (by simp)).up (by simp)).up (by simp)).up (by simp)).up (by simp)).up (by simp)
      obtain ⟨im', h1, h2, h3, h4⟩ := ih (a + 1) im1 (by omega) (by rw [F1 84 (by decide)]; exact h18) (by rw [F1 94 (by decide)]; exact h94)
      have hr : im1 117 = upd (upd (upd (upd (upd (upd (im 117) a sd) (7 + a) (-2)) (14 + a) co) (21 + a) (-2)) (42 + a) (-2)) (49 + a) (-2) := by
        show gm_up (gm_up (gm_up (gm_up (gm_up (gm_up im 117 _ _) 117 _ _) 117 _ _) 117 _ _) 117 _ _) 117 _ _ 117 = _
        rw [gu_upd, gu_upd, gu_upd, gu_upd, gu_upd, gu_upd]
      refine ⟨im', h1, F1.tr h2, fun b hb hb7 => ?_, fun j hj => ?_⟩
      · by_cases e : b = a
        · subst e
          unfold begV
          refine ⟨?_, ?_, ?_, ?_, ?_, ?_⟩
          · rw [h4 b (fun c h1 h2 => ⟨by omega, by omega, by omega, by omega, by omega, by omega⟩), hr, upd_ne _ _ (by omega), upd_ne _ _ (by omega), upd_ne _ _ (by omega), upd_ne _ _ (by omega), upd_ne _ _ (by omega), upd_eq, hsd]
          · rw [h4 (7 + b) (fun c h1 h2 => ⟨by omega, by omega, by omega, by omega, by omega, by omega⟩), hr, upd_ne _ _ (by omega), upd_ne _ _ (by omega), upd_ne _ _ (by omega), upd_ne _ _ (by omega), upd_eq]
          · rw [h4 (14 + b) (fun c h1 h2 => ⟨by omega, by omega, by omega, by omega, by omega, by omega⟩), hr, upd_ne _ _ (by omega), upd_ne _ _ (by omega), upd_ne _ _ (by omega), upd_eq, hco]
          · rw [h4 (21 + b) (fun c h1 h2 => ⟨by omega, by omega, by omega, by omega, by omega, by omega⟩), hr, upd_ne _ _ (by omega), upd_ne _ _ (by omega), upd_eq]
          · rw [h4 (42 + b) (fun c h1 h2 => ⟨by omega, by omega, by omega, by omega, by omega, by omega⟩), hr, upd_ne _ _ (by omega), upd_eq]
          · rw [h4 (49 + b) (fun c h1 h2 => ⟨by omega, by omega, by omega, by omega, by omega, by omega⟩), hr, upd_eq]
        · have := h3 b (by omega) hb7
          unfold begV at this ⊢
          rw [F1 95 (by decide), F1 98 (by decide)] at this
          exact this
      · rw [h4 j (fun b h1 h2 => hj b (by omega) h2), hr]
        obtain ⟨k1, k2, k3, k4, k5, k6⟩ := hj a (Nat.le_refl _) ha
        rw [upd_ne _ _ k6, upd_ne _ _ k5, upd_ne _ _ k4, upd_ne _ _ k3, upd_ne _ _ k2, upd_ne _ _ k1]
    rw [LX12_begins_23]
    by_cases hc : a < nm
    · have hnle : ¬ nI nm ≤ nI a := nI_ge hc (by omega)
      obtain ⟨im', g1, g2⟩ := key (im 95 (7 * l + a)) (im 98 (7 * l + a)) (by rw [if_pos hc]) (by rw [if_pos hc])
      refine ⟨im', ?_, g2⟩
      rw [← g1]
      have w1 : ∀ (i : Nat) (v : Int32) (j : gm_I), gm_up j 117 i v 84 18 = j 84 18 := fun i v j => gu_ne (by decide)
      have w2 : ∀ (i : Nat) (v : Int32) (j : gm_I), gm_up j 117 i v 94 = j 94 := fun i v j => gu_row (by decide)
      have w3 : ∀ (i : Nat) (v : Int32) (j : gm_I), gm_up j 117 i v 98 = j 98 := fun i v j => gu_row (by decide)
      simp (decide := true) only [QX12_begins, hlt, if_false, w1, w2, w3, h18, i2 l hl2, h94, hnle, ix714 l a hl2 ha, ixr0 a ha, ixr7 a ha, if_true, nI_a1]
    · have hle : nI nm ≤ nI a := nI_le (by omega) (by omega)
      obtain ⟨im', g1, g2⟩ := key 0 0 (by rw [if_neg hc]) (by rw [if_neg hc])
      refine ⟨im', ?_, g2⟩
      rw [← g1]
      have w1 : ∀ (i : Nat) (v : Int32) (j : gm_I), gm_up j 117 i v 84 18 = j 84 18 := fun i v j => gu_ne (by decide)
      have w2 : ∀ (i : Nat) (v : Int32) (j : gm_I), gm_up j 117 i v 94 = j 94 := fun i v j => gu_row (by decide)
      simp (decide := true) only [QX12_begins, hlt, if_false, w1, w2, h18, i2 l hl2, h94, hle, ixr0 a ha, ixr7 a ha, if_true, nI_a1]
