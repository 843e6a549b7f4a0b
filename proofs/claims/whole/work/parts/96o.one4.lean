/-! one tell of the reference, whichever it is -/
section
variable {K V P W : Nat → Nat} {M : Nat}
theorem wr_tell {so t : Nat} (hkt : K t = 128 + so) (hna : gNa so = 1) (G : Nat × Nat → Nat × Nat) (hG : ∀ w : Nat × Nat, (w = (0, 0) ∨ ¬ w.1 = 0) → G w = if w.1 = 0 then rgS V so (t + 2) (gIn so) 0 else w) {w : Nat × Nat} (hw : w = (0, 0) ∨ ¬ w.1 = 0) : G (wrN K V (t + 1) w) = if w.1 = 0 then sfT K V t else w := by
  have hsf : sfT K V t = if twc K V (t + 1) (t + 1) = true then (3, t + 1) else rgS V so (t + 2) (gIn so) 0 := by
    unfold sfT
    rw [hkt, Nat.add_sub_cancel_left, hna]
    by_cases h : twc K V (t + 1) (t + 1) = true
    · rw [if_pos ⟨rfl, h⟩, if_pos h]
    · rw [if_neg (fun e => h e.2), if_neg h]
  rw [hsf]
  unfold wrN
  rcases hw with e | e
  · subst e
    by_cases h : twc K V (t + 1) (t + 1) = true
    · rw [if_pos ⟨rfl, h⟩, if_pos rfl, if_pos h, hG _ (Or.inr (by show ¬ (3 : Nat) = 0; decide)), if_neg (by show ¬ (3 : Nat) = 0; decide)]
    · rw [if_neg (fun e => h e.2), if_pos rfl, if_neg h, hG _ (Or.inl rfl), if_pos rfl]
  · rw [if_neg (fun h => e h.1), if_neg e, hG _ (Or.inr e), if_neg e]
theorem wP_5 {A : TA} (h : A.wk ≤ 5) : (wP A).1 ≤ 5 := by unfold wP; split; exact Nat.zero_le _; exact h
theorem wP_t {A : TA} {t : Nat} (h : ¬ A.wk = 0 → A.wt < t) : ¬ (wP A).1 = 0 → (wP A).2 < t + 1 := by
  unfold wP
  split
  · intro h; exact absurd rfl h
  · intro h2; have := h h2; show A.wt < t + 1; omega
theorem M_tMan (hx : tcx K V P W M) {s t : Nat} {im : gm_I} {lm : gm_L} (hs : s < 2) (h : pI K V P W M s im lm t) (hkt : K t = 129) : ∃ im' lm', gm_den 186 0 [.ref 84, .null] [] 128 gm_RF im lm = some (none, 128, gm_RF, im', lm') ∧ mF s im im' ∧ Fr [92] lm lm' ∧ (pB K P im' ∨ ∃ t', t < t' ∧ pI K V P W M s im' lm' t') := by
  have hI := h
  obtain ⟨p1, p2, p3, p4, p5, p6, p7, p8, p9, p10, p11, p12⟩ := h
  have hJ := gst_J (V := V) p1
  have htM := okT_M hx.1 p1
  have hM := hx.1.1
  have e87 : im 87 t = 21 := by rw [(p4 t (by omega)).1, hkt]; rfl
  have c2 : gm_in (nI t) 403 = true := gm_in_nI (by omega) (by decide)
  have c3 : (nI t).toNatClampNeg = t := nI_clamp (by omega)
  have i2s : gm_in (nI s) 2 = true ∧ (nI s).toNatClampNeg = s := ⟨gm_in_nI hs (by decide), nI_clamp (by omega)⟩
  have a94 := p11.1.2.1
  have hnm7 := hJ.2.2.2.2.2.2.2.2.2.1
  have hnk5 := hJ.2.2.2.2.2.2.2.2.2.2.1
  have hnj8 := hJ.2.2.2.2.2.2.2.2.2.2.2
  obtain ⟨J0, j1, j2, j3⟩ := M_room p4 hx.1 p1 p3 p2 (so := 1) hkt (by decide) hJ.2.1 hnm7 (c := 7) rfl
  rcases j3 with ⟨o1, o2, o3⟩ | hB
  · have o3' : (foA K V t).nm < 7 := o3
    obtain ⟨w1, w2, w3, w4, w5, w6, w7, w8, w9⟩ := tlW_n K V (foA K V t) t
    have eA : tlT K V (foA K V t) t = (TA.mk ((tlW K V (foA K V t) t).sd) ((tlW K V (foA K V t) t).se) ((foA K V t).nm + 1) ((tlW K V (foA K V t) t).nk) ((tlW K V (foA K V t) t).nj) (udN (foA K V t).mi (foA K V t).nm t) ((tlW K V (foA K V t) t).ki) ((tlW K V (foA K V t) t).ji) ((tlW K V (foA K V t) t).la) ((tlW K V (foA K V t) t).wk) ((tlW K V (foA K V t) t).wt)) := by unfold tlT; rw [if_neg (by omega), if_pos hkt]
    have hA0 : pA J0 V s (foA K V t) := by
      unfold pA
      rw [j2.1 93 (by decide), j2.1 94 (by decide), j2.1 95 (by decide), j2.1 96 (by decide), j2.1 97 (by decide), j2.1 98 (by decide), j2.1 99 (by decide), j2.1 100 (by decide), j2.1 101 (by decide), j2.1 102 (by decide), j2.1 103 (by decide)]
      exact p11
    obtain ⟨im', lm', q1, q2, q3, q4⟩ := M_tellMan hx (A' := tlT K V (foA K V t) t) hs (Fo.tk j2 p4) o1 o2 (gFd_t (so := 1) p2 hkt (by decide)) (w := wP (foA K V t)) (wR_fr (wP_R p7) (j2.2 15 (by decide)) (j2.2 16 (by decide))) (wP_5 p8.1) (wP_t p8.2) (cnt := (foA K V t).nm + (foA K V t).nk + (foA K V t).nj) (by omega) (nmR_ext p10 (by omega) (fun x a b => by rw [show x = t by omega]; omega)) (by rw [j2.2 20 (by decide)]; exact p9) (by rw [j2.2 19 (by decide)]; exact p6) hA0 o3' (by rw [eA, TA_sd, w4]) (by rw [eA, TA_se, w5]) (by rw [eA, TA_nm]) (by rw [eA, TA_nk, w2]) (by rw [eA, TA_nj, w3]) (by rw [eA, TA_mi]) (by rw [eA, TA_ki, w7]) (by rw [eA, TA_ji, w8])
    have hT : TF s im im' := (Fo.tf j2 (by decide)).tr q2
    refine ⟨im', lm', ?_, TF.mf hT, q3, ?_⟩
    · simp (decide := true) only [QX12_tellOne, p3.1, c2, c3, e87, if_true, p6, i2s, a94, j1, gm_cont_v, o2.2, not_true_eq_false, if_false, q1]
    · rcases q4 with hB | ⟨k1, k2, k3, k4, k5, k6, u1, u2, u3, u4, u5, u6, u7⟩
      · exact Or.inl hB
      · have hfo : foA K V (t + 6 + 1) = tlT K V (foA K V t) t := foA_in (d := 6) (fun x a b => by
          rcases (by omega : x = t ∨ x = t + 1 ∨ x = t + 2 ∨ x = t + 3 ∨ x = t + 4 ∨ x = t + 5) with rfl | rfl | rfl | rfl | rfl | rfl <;> omega) (hJ.1.mp p2)
        have G4 : ∀ w : Nat × Nat, (w = (0, 0) ∨ ¬ w.1 = 0) → w = if w.1 = 0 then rgS V 1 (t + 2) 0 4 else w := fun w hw => wr_id 1 (t + 2) 4 w hw
        have G3 : ∀ w : Nat × Nat, (w = (0, 0) ∨ ¬ w.1 = 0) → wrB V 0 999 (t + 5) w.1 w.2 = if w.1 = 0 then rgS V 1 (t + 2) 1 3 else w := fun w hw => wrS (s := 1) (fi := t + 2) (i := 3) hw (fun w => w) G4
        have G2 : ∀ w : Nat × Nat, (w = (0, 0) ∨ ¬ w.1 = 0) → wrB V 0 999 (t + 5) (wrB V 0 10 (t + 4) w.1 w.2).1 (wrB V 0 10 (t + 4) w.1 w.2).2 = if w.1 = 0 then rgS V 1 (t + 2) 2 2 else w := fun w hw => wrS (s := 1) (fi := t + 2) (i := 2) hw (fun w => wrB V 0 999 (t + 5) w.1 w.2) G3
        have G1 := fun (w : Nat × Nat) (hw : w = (0, 0) ∨ ¬ w.1 = 0) => wrS (V := V) (s := 1) (fi := t + 2) (i := 1) hw (fun w => wrB V 0 999 (t + 5) (wrB V 0 10 (t + 4) w.1 w.2).1 (wrB V 0 10 (t + 4) w.1 w.2).2) G2
        have G0 := fun (w : Nat × Nat) (hw : w = (0, 0) ∨ ¬ w.1 = 0) => wrS (V := V) (s := 1) (fi := t + 2) (i := 0) hw _ G1
        have hW := wr_tell (K := K) (V := V) (so := 1) (t := t) hkt rfl _ G0 (wP_z (foA K V t))
        refine Or.inr ⟨t + 6 + 1, by omega, pI_mk hx hs hI hT q3 (by omega) u1 u2 u3 (so := 1) (by decide) hkt hfo (by show t + 1 + 1 + 4 < t + 6 + 1; omega) hW u4 ?_ ?_ ?_⟩
        · rw [hfo, eA, TA_nm, TA_nk, TA_nj, w2, w3, u5, show (foA K V t).nm + 1 + (foA K V t).nk + (foA K V t).nj = (foA K V t).nm + (foA K V t).nk + (foA K V t).nj + 1 by omega]
        · rw [hfo, eA, TA_nm, TA_nk, TA_nj, w2, w3, u6, show (foA K V t).nm + 1 + (foA K V t).nk + (foA K V t).nj = (foA K V t).nm + (foA K V t).nk + (foA K V t).nj + 1 by omega]
          have htM1 := okT_M hx.1 o1
          exact nmR_add p10 (by omega) (by omega) k1 ((p4 (t + 1) (by omega)).2.2.2 k1) (fun y a b hy => by
            rcases (by omega : y = t ∨ y = t + 1 ∨ y = t + 2 ∨ y = t + 3 ∨ y = t + 4 ∨ y = t + 5 ∨ y = t + 6) with rfl | rfl | rfl | rfl | rfl | rfl | rfl <;> omega)
        · rw [hfo]; exact u7
  · have e := (pB_ne hB).1
    refine ⟨J0, lm, ?_, Fo.mf j2 (by decide), Fr.rf _ _, Or.inl hB⟩
    simp (decide := true) only [QX12_tellOne, p3.1, c2, c3, e87, if_true, p6, i2s, a94, j1, gm_cont_v, e, not_false_eq_true]
end
