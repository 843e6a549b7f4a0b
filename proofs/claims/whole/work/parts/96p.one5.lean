/-! one tell of the reference: motion, juror, law -/
section
variable {K V P W : Nat → Nat} {M : Nat}
theorem M_tMot (hx : tcx K V P W M) {s t : Nat} {im : gm_I} {lm : gm_L} (hs : s < 2) (h : pI K V P W M s im lm t) (hkt : K t = 130) : ∃ im' lm', gm_den 186 0 [.ref 84, .null] [] 128 gm_RF im lm = some (none, 128, gm_RF, im', lm') ∧ mF s im im' ∧ Fr [92] lm lm' ∧ (pB K P im' ∨ ∃ t', t < t' ∧ pI K V P W M s im' lm' t') := by
  have hI := h
  obtain ⟨p1, p2, p3, p4, p5, p6, p7, p8, p9, p10, p11, p12⟩ := h
  have hJ := gst_J (V := V) p1
  have htM := okT_M hx.1 p1
  have hM := hx.1.1
  have e87 : im 87 t = 22 := by rw [(p4 t (by omega)).1, hkt]; rfl
  have c2 : gm_in (nI t) 403 = true := gm_in_nI (by omega) (by decide)
  have c3 : (nI t).toNatClampNeg = t := nI_clamp (by omega)
  have i2s : gm_in (nI s) 2 = true ∧ (nI s).toNatClampNeg = s := ⟨gm_in_nI hs (by decide), nI_clamp (by omega)⟩
  have a94 := p11.1.2.2.1
  have hnm7 := hJ.2.2.2.2.2.2.2.2.2.1
  have hnk5 := hJ.2.2.2.2.2.2.2.2.2.2.1
  have hnj8 := hJ.2.2.2.2.2.2.2.2.2.2.2
  obtain ⟨J0, j1, j2, j3⟩ := M_room p4 hx.1 p1 p3 p2 (so := 2) hkt (by decide) hJ.2.2.1 hnk5 (c := 5) rfl
  rcases j3 with ⟨o1, o2, o3⟩ | hB
  · have o3' : (foA K V t).nk < 5 := o3
    obtain ⟨w1, w2, w3, w4, w5, w6, w7, w8, w9⟩ := tlW_n K V (foA K V t) t
    have eA : tlT K V (foA K V t) t = (TA.mk ((tlW K V (foA K V t) t).sd) ((tlW K V (foA K V t) t).se) ((tlW K V (foA K V t) t).nm) ((foA K V t).nk + 1) ((tlW K V (foA K V t) t).nj) ((tlW K V (foA K V t) t).mi) (udN (foA K V t).ki (foA K V t).nk t) ((tlW K V (foA K V t) t).ji) ((tlW K V (foA K V t) t).la) ((tlW K V (foA K V t) t).wk) ((tlW K V (foA K V t) t).wt)) := by unfold tlT; rw [if_neg (by omega), if_neg (by omega), if_pos hkt]
    have hA0 : pA J0 V s (foA K V t) := by
      unfold pA
      rw [j2.1 93 (by decide), j2.1 94 (by decide), j2.1 95 (by decide), j2.1 96 (by decide), j2.1 97 (by decide), j2.1 98 (by decide), j2.1 99 (by decide), j2.1 100 (by decide), j2.1 101 (by decide), j2.1 102 (by decide), j2.1 103 (by decide)]
      exact p11
    obtain ⟨im', lm', q1, q2, q3, q4⟩ := M_tellMotion hx (A' := tlT K V (foA K V t) t) hs (Fo.tk j2 p4) o1 o2 (gFd_t (so := 2) p2 hkt (by decide)) (w := wP (foA K V t)) (wR_fr (wP_R p7) (j2.2 15 (by decide)) (j2.2 16 (by decide))) (wP_5 p8.1) (wP_t p8.2) (cnt := (foA K V t).nm + (foA K V t).nk + (foA K V t).nj) (by omega) (nmR_ext p10 (by omega) (fun x a b => by rw [show x = t by omega]; omega)) (by rw [j2.2 20 (by decide)]; exact p9) (by rw [j2.2 19 (by decide)]; exact p6) hA0 o3' (by rw [eA, TA_sd, w4]) (by rw [eA, TA_se, w5]) (by rw [eA, TA_nm, w1]) (by rw [eA, TA_nk]) (by rw [eA, TA_nj, w3]) (by rw [eA, TA_mi, w6]) (by rw [eA, TA_ki]) (by rw [eA, TA_ji, w8])
    have hT : TF s im im' := (Fo.tf j2 (by decide)).tr q2
    refine ⟨im', lm', ?_, TF.mf hT, q3, ?_⟩
    · simp (decide := true) only [QX12_tellOne, p3.1, c2, c3, e87, if_true, p6, i2s, a94, j1, gm_cont_v, o2.2, not_true_eq_false, if_false, q1]
    · rcases q4 with hB | ⟨k1, k2, k3, k4, k5, u1, u2, u3, u4, u5, u6, u7⟩
      · exact Or.inl hB
      · have hfo : foA K V (t + 5 + 1) = tlT K V (foA K V t) t := foA_in (d := 5) (fun x a b => by
          rcases (by omega : x = t ∨ x = t + 1 ∨ x = t + 2 ∨ x = t + 3 ∨ x = t + 4) with rfl | rfl | rfl | rfl | rfl <;> omega) (hJ.1.mp p2)
        have G3 : ∀ w : Nat × Nat, (w = (0, 0) ∨ ¬ w.1 = 0) → w = if w.1 = 0 then rgS V 2 (t + 2) 0 3 else w := fun w hw => wr_id 2 (t + 2) 3 w hw
        have G2 : ∀ w : Nat × Nat, (w = (0, 0) ∨ ¬ w.1 = 0) → wrB V 0 99 (t + 4) w.1 w.2 = if w.1 = 0 then rgS V 2 (t + 2) 1 2 else w := fun w hw => wrS (s := 2) (fi := t + 2) (i := 2) hw (fun w => w) G3
        have G1 : ∀ w : Nat × Nat, (w = (0, 0) ∨ ¬ w.1 = 0) → wrB V 0 99 (t + 4) (wrB V 0 99 (t + 3) w.1 w.2).1 (wrB V 0 99 (t + 3) w.1 w.2).2 = if w.1 = 0 then rgS V 2 (t + 2) 2 1 else w := fun w hw => wrS (s := 2) (fi := t + 2) (i := 1) hw (fun w => wrB V 0 99 (t + 4) w.1 w.2) G2
        have G0 := fun (w : Nat × Nat) (hw : w = (0, 0) ∨ ¬ w.1 = 0) => wrS (V := V) (s := 2) (fi := t + 2) (i := 0) hw (fun w => wrB V 0 99 (t + 4) (wrB V 0 99 (t + 3) w.1 w.2).1 (wrB V 0 99 (t + 3) w.1 w.2).2) G1
        have hW := wr_tell (K := K) (V := V) (so := 2) (t := t) hkt rfl _ G0 (wP_z (foA K V t))
        refine Or.inr ⟨t + 5 + 1, by omega, pI_mk hx hs hI hT q3 (by omega) u1 u2 u3 (so := 2) (by decide) hkt hfo (by show t + 1 + 1 + 3 < t + 5 + 1; omega) hW u4 ?_ ?_ ?_⟩
        · rw [hfo, eA, TA_nm, TA_nk, TA_nj, w1, w3, u5, show (foA K V t).nm + ((foA K V t).nk + 1) + (foA K V t).nj = (foA K V t).nm + (foA K V t).nk + (foA K V t).nj + 1 by omega]
        · rw [hfo, eA, TA_nm, TA_nk, TA_nj, w1, w3, u6, show (foA K V t).nm + ((foA K V t).nk + 1) + (foA K V t).nj = (foA K V t).nm + (foA K V t).nk + (foA K V t).nj + 1 by omega]
          have htM1 := okT_M hx.1 o1
          exact nmR_add p10 (by omega) (by omega) k1 ((p4 (t + 1) (by omega)).2.2.2 k1) (fun y a b hy => by
            rcases (by omega : y = t ∨ y = t + 1 ∨ y = t + 2 ∨ y = t + 3 ∨ y = t + 4 ∨ y = t + 5) with rfl | rfl | rfl | rfl | rfl | rfl <;> omega)
        · rw [hfo]; exact u7
  · have e := (pB_ne hB).1
    refine ⟨J0, lm, ?_, Fo.mf j2 (by decide), Fr.rf _ _, Or.inl hB⟩
    simp (decide := true) only [QX12_tellOne, p3.1, c2, c3, e87, if_true, p6, i2s, a94, j1, gm_cont_v, e, not_false_eq_true]
theorem M_tJur (hx : tcx K V P W M) {s t : Nat} {im : gm_I} {lm : gm_L} (hs : s < 2) (h : pI K V P W M s im lm t) (hkt : K t = 131) : ∃ im' lm', gm_den 186 0 [.ref 84, .null] [] 128 gm_RF im lm = some (none, 128, gm_RF, im', lm') ∧ mF s im im' ∧ Fr [92] lm lm' ∧ (pB K P im' ∨ ∃ t', t < t' ∧ pI K V P W M s im' lm' t') := by
  have hI := h
  obtain ⟨p1, p2, p3, p4, p5, p6, p7, p8, p9, p10, p11, p12⟩ := h
  have hJ := gst_J (V := V) p1
  have htM := okT_M hx.1 p1
  have hM := hx.1.1
  have e87 : im 87 t = 23 := by rw [(p4 t (by omega)).1, hkt]; rfl
  have c2 : gm_in (nI t) 403 = true := gm_in_nI (by omega) (by decide)
  have c3 : (nI t).toNatClampNeg = t := nI_clamp (by omega)
  have i2s : gm_in (nI s) 2 = true ∧ (nI s).toNatClampNeg = s := ⟨gm_in_nI hs (by decide), nI_clamp (by omega)⟩
  have a94 := p11.1.2.2.2.1
  have hnm7 := hJ.2.2.2.2.2.2.2.2.2.1
  have hnk5 := hJ.2.2.2.2.2.2.2.2.2.2.1
  have hnj8 := hJ.2.2.2.2.2.2.2.2.2.2.2
  obtain ⟨J0, j1, j2, j3⟩ := M_room p4 hx.1 p1 p3 p2 (so := 3) hkt (by decide) hJ.2.2.2.1 hnj8 (c := 8) rfl
  rcases j3 with ⟨o1, o2, o3⟩ | hB
  · have o3' : (foA K V t).nj < 8 := o3
    obtain ⟨w1, w2, w3, w4, w5, w6, w7, w8, w9⟩ := tlW_n K V (foA K V t) t
    have eA : tlT K V (foA K V t) t = (TA.mk ((tlW K V (foA K V t) t).sd) ((tlW K V (foA K V t) t).se) ((tlW K V (foA K V t) t).nm) ((tlW K V (foA K V t) t).nk) ((foA K V t).nj + 1) ((tlW K V (foA K V t) t).mi) ((tlW K V (foA K V t) t).ki) (udN (foA K V t).ji (foA K V t).nj t) ((tlW K V (foA K V t) t).la) ((tlW K V (foA K V t) t).wk) ((tlW K V (foA K V t) t).wt)) := by unfold tlT; rw [if_neg (by omega), if_neg (by omega), if_neg (by omega), if_pos hkt]
    have hA0 : pA J0 V s (foA K V t) := by
      unfold pA
      rw [j2.1 93 (by decide), j2.1 94 (by decide), j2.1 95 (by decide), j2.1 96 (by decide), j2.1 97 (by decide), j2.1 98 (by decide), j2.1 99 (by decide), j2.1 100 (by decide), j2.1 101 (by decide), j2.1 102 (by decide), j2.1 103 (by decide)]
      exact p11
    obtain ⟨im', lm', q1, q2, q3, q4⟩ := M_tellJuror hx (A' := tlT K V (foA K V t) t) hs (Fo.tk j2 p4) o1 o2 (gFd_t (so := 3) p2 hkt (by decide)) (w := wP (foA K V t)) (wR_fr (wP_R p7) (j2.2 15 (by decide)) (j2.2 16 (by decide))) (wP_5 p8.1) (wP_t p8.2) (cnt := (foA K V t).nm + (foA K V t).nk + (foA K V t).nj) (by omega) (nmR_ext p10 (by omega) (fun x a b => by rw [show x = t by omega]; omega)) (by rw [j2.2 20 (by decide)]; exact p9) (by rw [j2.2 19 (by decide)]; exact p6) hA0 o3' (by rw [eA, TA_sd, w4]) (by rw [eA, TA_se, w5]) (by rw [eA, TA_nm, w1]) (by rw [eA, TA_nk, w2]) (by rw [eA, TA_nj]) (by rw [eA, TA_mi, w6]) (by rw [eA, TA_ki, w7]) (by rw [eA, TA_ji])
    have hT : TF s im im' := (Fo.tf j2 (by decide)).tr q2
    refine ⟨im', lm', ?_, TF.mf hT, q3, ?_⟩
    · simp (decide := true) only [QX12_tellOne, p3.1, c2, c3, e87, if_true, p6, i2s, a94, j1, gm_cont_v, o2.2, not_true_eq_false, if_false, q1]
    · rcases q4 with hB | ⟨k1, k2, k3, u1, u2, u3, u4, u5, u6, u7⟩
      · exact Or.inl hB
      · have hfo : foA K V (t + 3 + 1) = tlT K V (foA K V t) t := foA_in (d := 3) (fun x a b => by
          rcases (by omega : x = t ∨ x = t + 1 ∨ x = t + 2) with rfl | rfl | rfl <;> omega) (hJ.1.mp p2)
        have G1 : ∀ w : Nat × Nat, (w = (0, 0) ∨ ¬ w.1 = 0) → w = if w.1 = 0 then rgS V 3 (t + 2) 0 1 else w := fun w hw => wr_id 3 (t + 2) 1 w hw
        have G0 := fun (w : Nat × Nat) (hw : w = (0, 0) ∨ ¬ w.1 = 0) => wrS (V := V) (s := 3) (fi := t + 2) (i := 0) hw (fun w => w) G1
        have hW := wr_tell (K := K) (V := V) (so := 3) (t := t) hkt rfl _ G0 (wP_z (foA K V t))
        refine Or.inr ⟨t + 3 + 1, by omega, pI_mk hx hs hI hT q3 (by omega) u1 u2 u3 (so := 3) (by decide) hkt hfo (by show t + 1 + 1 + 1 < t + 3 + 1; omega) hW u4 ?_ ?_ ?_⟩
        · rw [hfo, eA, TA_nm, TA_nk, TA_nj, w1, w2, u5, show (foA K V t).nm + (foA K V t).nk + ((foA K V t).nj + 1) = (foA K V t).nm + (foA K V t).nk + (foA K V t).nj + 1 by omega]
        · rw [hfo, eA, TA_nm, TA_nk, TA_nj, w1, w2, u6, show (foA K V t).nm + (foA K V t).nk + ((foA K V t).nj + 1) = (foA K V t).nm + (foA K V t).nk + (foA K V t).nj + 1 by omega]
          have htM1 := okT_M hx.1 o1
          exact nmR_add p10 (by omega) (by omega) k1 ((p4 (t + 1) (by omega)).2.2.2 k1) (fun y a b hy => by
            rcases (by omega : y = t ∨ y = t + 1 ∨ y = t + 2 ∨ y = t + 3) with rfl | rfl | rfl | rfl <;> omega)
        · rw [hfo]; exact u7
  · have e := (pB_ne hB).1
    refine ⟨J0, lm, ?_, Fo.mf j2 (by decide), Fr.rf _ _, Or.inl hB⟩
    simp (decide := true) only [QX12_tellOne, p3.1, c2, c3, e87, if_true, p6, i2s, a94, j1, gm_cont_v, e, not_false_eq_true]
theorem kL1 {t x k : Nat} (hc : cxP K M) (hV2 : ∀ t, K t = 2 → V t ≤ 9999) {a : Nat} (g3 : (gst K g0 a).w = 3) (gs0 : (gst K g0 a).sc = 0) (go : (gst K g0 a).op = 0) (hok : okT K g0 (a + x + 1)) (hne : ∀ y, y < x → ¬ K (a + y) = 59) : ¬ K (a + x) = 1 := by
  intro h1
  have hl := (law_go (V := V) (fun t => kOk_lt (hc.2.2.2 t)) hV2 g3 gs0 go x (okT_le hok (by omega)) hne).1.1
  have hf := (hok.2 (a + x) (by omega)).2
  rw [h1] at hf
  unfold gf at hf
  rw [if_neg (by omega), if_neg (by omega), if_neg (by omega)] at hf
  rcases hl with w3 | w4
  · rw [if_pos w3] at hf
    simp (decide := true) only [if_false] at hf
  · rw [if_neg (by omega)] at hf
    have ho : gOpr 1 = false := rfl
    rw [ho, cond_false] at hf
    by_cases hp : 0 < (gst K g0 (a + x)).op
    · rw [if_pos hp, if_neg (by decide)] at hf; cases hf
    · rw [if_neg hp, if_neg] at hf
      · cases hf
      · unfold gCls; split; decide; split; decide; split <;> decide
theorem M_tLaw (hx : tcx K V P W M) {s t k : Nat} {im : gm_I} {lm : gm_L} (hs : s < 2) (h : pI K V P W M s im lm t) (hkt : K t = 133 + k) (hk3 : k < 3) : ∃ im', gm_den 186 0 [.ref 84, .null] [] 128 gm_RF im lm = some (none, 128, gm_RF, im', lm) ∧ mF s im im' ∧ (pB K P im' ∨ ∃ t', t < t' ∧ pI K V P W M s im' lm t') := by
  have hI := h
  obtain ⟨p1, p2, p3, p4, p5, p6, p7, p8, p9, p10, p11, bb, cb, ⟨l1, l2, l3, l4⟩, l5⟩ := h
  have hJ := gst_J (V := V) p1
  have htM := okT_M hx.1 p1
  have hM := hx.1.1
  have h400 := p1.1
  have n1 : Value.category .null = 1 := rfl
  have e87 : im 87 t = nI (24 + k) := by
    rw [(p4 t (by omega)).1, hkt]
    rcases (by omega : k = 0 ∨ k = 1 ∨ k = 2) with rfl | rfl | rfl <;> rfl
  have c2 : gm_in (nI t) 403 = true := gm_in_nI (by omega) (by decide)
  have c3 : (nI t).toNatClampNeg = t := nI_clamp (by omega)
  have hso : K t = 128 + (5 + k) := by omega
  have hmost : gMost (5 + k) = 400 := by rcases (by omega : k = 0 ∨ k = 1 ∨ k = 2) with rfl | rfl | rfl <;> rfl
  have htm : (gst K g0 t).tm (5 + k) ≤ t := by
    rcases (by omega : k = 0 ∨ k = 1 ∨ k = 2) with rfl | rfl | rfl
    · exact hJ.2.2.2.2.2.2.1
    · exact hJ.2.2.2.2.2.2.2.1
    · exact hJ.2.2.2.2.2.2.2.2.1
  obtain ⟨J0, j1, j2, j3⟩ := M_goesT p4 hx.1 p1 p3 p2 hso (by omega) hmost htm
  have u1 : nI (24 + k) - 24 = nI k := by rw [show (24 : Int32) = nI 24 from rfl, nI_sub (by omega), Nat.add_sub_cancel_left]
  have u2 : ¬ nI k < 0 := nI_pos (by omega)
  have u3 : nI (24 + k) ≤ 26 := nI_le (b := 26) (by omega) (by decide)
  have e13 : im 84 13 ≤ 0 := by rw [p3.2]; decide
  have hst : ∀ J2 : gm_I, gm_den 193 0 [.ref 84, .int (nI k), .null, .null] [] 128 gm_RF J0 lm = some (none, 128, gm_RF, J2, lm) → gm_den 186 0 [.ref 84, .null] [] 128 gm_RF im lm = some (none, 128, gm_RF, J2, lm) := by
    intro J2 hJ2
    have hd : gm_den 186 9 [.ref 84, .null] [.int (nI (24 + k))] 128 gm_RF im lm = gm_den 186 198 [.ref 84, .null] [] 128 gm_RF im lm := by
      rcases (by omega : k = 0 ∨ k = 1 ∨ k = 2) with rfl | rfl | rfl
      · show gm_den 186 9 _ [.int 24] _ _ _ _ = _; simp only [QX12_tellOne]
      · show gm_den 186 9 _ [.int 25] _ _ _ _ = _; simp only [QX12_tellOne]
      · show gm_den 186 9 _ [.int 26] _ _ _ _ = _; simp only [QX12_tellOne]
    have h0 : gm_den 186 0 [.ref 84, .null] [] 128 gm_RF im lm = gm_den 186 9 [.ref 84, .null] [.int (nI (24 + k))] 128 gm_RF im lm := by
      simp (decide := true) only [QX12_tellOne, p3.1, c2, c3, e87, if_true]
    rw [h0, hd]
    simp (decide := true) only [QX12_tellOne, p3.1, c2, c3, e87, if_true, if_false, u1, u2, u3, n1, e13, j1, gm_cont_v, hJ2]
  have f0 : LF (130 * s + bb) (130 * s + 130) (420 * s + cb) (420 * s + 420) im J0 := Fo.lf j2
  have J035 : J0 84 35 = nI (130 * s + bb) := by rw [j2.2 35 (by decide)]; exact l1
  rcases j3 with ⟨o1, o2⟩ | hB
  · have w2 : (gst K g0 (t + 1)).w = 2 := by
      show (gn (gst K g0 t) (K t)).w = 2
      unfold gn
      rw [if_pos p2, if_pos (by omega)]; rfl
    have hg2 : gf (gst K g0 (t + 1)) (K (t + 1)) = if K (t + 1) = 61 then 0 else 1 := by
      unfold gf; rw [if_neg (by omega), if_neg (by omega), if_pos w2]
    obtain ⟨J1, q1, q2, q3⟩ := M_must (Fo.tk j2 p4) hx.1 o1 o2 (gE_w (by omega)) (k := 61) rfl hg2 (c := 5) rfl
    have f1 : LF (130 * s + bb) (130 * s + 130) (420 * s + cb) (420 * s + 420) im J1 := f0.tr (Fo.lf q2)
    have J135 : J1 84 35 = nI (130 * s + bb) := by rw [q2.2 35 (by decide)]; exact J035
    have hl0 : gm_den 193 0 [.ref 84, .int (nI k), .null, .null] [] 128 gm_RF J0 lm = gm_den 193 12 [.ref 84, .int (nI k), .int (nI (130 * s + bb)), .int 0] [] 128 gm_RF J1 lm := by
      simp (decide := true) only [QX12_tellLaw, q1, gm_cont_v, J135, n1, if_true]
    rcases q3 with ⟨k61, -, o3, o4⟩ | hB
    · have g2 : gst K g0 (t + 2) = (GS.mk 3 (gst K g0 (t + 1)).nm (gst K g0 (t + 1)).it 0 0 0 (gst K g0 (t + 1)).tm) := by
        show gn (gst K g0 (t + 1)) (K (t + 1)) = _
        unfold gn
        rw [if_neg (by omega), if_neg (by omega), if_pos w2]
      have g3 : (gst K g0 (t + 2)).w = 3 := by rw [g2]; rfl
      have gs0 : (gst K g0 (t + 2)).sc = 0 := by rw [g2]; rfl
      have go : (gst K g0 (t + 2)).op = 0 := by rw [g2]; rfl
      have gfi : (gst K g0 (t + 2)).fi = 0 := by rw [g2]; rfl
      obtain ⟨im', r1, r2, r3⟩ := M_lawO hx.1 hx.2.1 (a := t + 2) (z := 420 * s + cb) (u := 420 * s + 420) (B := 130 * s + bb) (B0 := 130 * s) (s := s) (k := k) g3 gs0 go (by omega) (by omega) (by omega) (by omega) (by omega) hs hk3 lm im p6 (401) 0 0 J1 (by omega) o3 (fun y hy => absurd hy (Nat.not_lt_zero _)) g3 gs0 go gfi o4 (f1.tk p4) ⟨by rw [q2.2 41 (by decide), j2.2 41 (by decide)]; exact l2, fun y hy => absurd hy (Nat.not_lt_zero _), rfl⟩ (by rw [q2.2 12 (by decide), j2.2 12 (by decide)]; exact p5) J135 (fun b hb => absurd hb (Nat.not_lt_zero _)) f1
      refine ⟨im', hst im' (hl0.trans r1), LG.mf r2 (by omega) (by omega) (by omega) (by omega) (by omega) (by omega), ?_⟩
      rcases r3 with hB | ⟨e, v1, v2, v3, v4, v5, v6, v7, v8, v9, v10, v11⟩
      · exact Or.inl hB
      · have hnb : 4 * (lwR K V (t + 2) (e + 1)).nb ≤ e + 1 + 2 := by obtain ⟨-, -, -, -, -, -, q, -⟩ := v8; exact q
        have hcn : (lwR K V (t + 2) (e + 1)).cn ≤ e + 1 := by obtain ⟨-, -, -, -, q, -⟩ := v8; exact q
        have hfo : foA K V (t + (e + 2) + 1) = tlT K V (foA K V t) t := foA_in (d := e + 2) (fun x a b => by
          by_cases x0 : x = t
          · rw [x0]; omega
          · by_cases x1 : x = t + 1
            · rw [x1]; omega
            · have := v3 (x - (t + 2)) (by omega)
              rw [show t + 2 + (x - (t + 2)) = x by omega] at this
              exact this) (hJ.1.mp p2)
        have et : t + 2 + e + 1 = t + (e + 2) + 1 := by omega
        rw [et] at v1 v4
        obtain ⟨w1, w2', w3, w4, w5, w6, w7, w8, w9⟩ := tlW_n K V (foA K V t) t
        have eW : tlW K V (foA K V t) t = foA K V t := by
          unfold tlW
          rw [if_neg]
          intro hc
          rw [hkt] at hc
          omega
        have eA : tlT K V (foA K V t) t = (TA.mk (foA K V t).sd (foA K V t).se (foA K V t).nm (foA K V t).nk (foA K V t).nj (foA K V t).mi (foA K V t).ki (foA K V t).ji (udN (foA K V t).la k (t + 2)) (foA K V t).wk (foA K V t).wt) := by
          unfold tlT
          rw [if_neg (by omega), if_neg (by omega), if_neg (by omega), if_neg (by omega), if_neg (by omega), eW, hkt, Nat.add_sub_cancel_left]
        have eat : lwAt K V (t + 2) (t + 2 + e) = lwR K V (t + 2) (e + 1) := by unfold lwAt; rw [Nat.add_sub_cancel_left]
        refine Or.inr ⟨t + (e + 2) + 1, by omega, v1, ?_, v4, ?_, v5, by rw [r2.2.1 19 (by decide)]; exact p6, ?_, ?_, ?_, ?_, ?_, bb + (lwR K V (t + 2) (e + 1)).nb, cb + (lwR K V (t + 2) (e + 1)).cn, ⟨?_, ?_, by omega, by omega⟩, fun k' hk' => ?_⟩
        · have hJ2 := (gst_J (V := V) v1).1
          apply hJ2.mpr
          unfold tS
          rw [show t + (e + 2) + 1 - 1 = t + 2 + e by omega, v2]
          simp
        · unfold mTks mTk1
          rw [r2.1 87 (by decide) (by decide), r2.1 88 (by decide) (by decide), r2.1 89 (by decide) (by decide)]
          exact p4
        · rw [hfo, eA]
          exact wR_fr p7 (r2.2.1 15 (by decide)) (r2.2.1 16 (by decide))
        · rw [hfo, eA, TA_wk, TA_wt]
          exact ⟨p8.1, fun h => by have := p8.2 h; omega⟩
        · rw [hfo, eA, TA_nm, TA_nk, TA_nj, r2.2.1 20 (by decide)]; exact p9
        · rw [hfo, eA, TA_nm, TA_nk, TA_nj]
          refine nmR_ext p10 (by omega) (fun x a b => ?_)
          by_cases x0 : x = t
          · rw [x0]; omega
          · by_cases x1 : x = t + 1
            · rw [x1]; omega
            · have := kL1 (V := V) (t := 0) (k := 0) (x := x - (t + 2)) hx.1 hx.2.1 g3 gs0 go (by rw [show t + 2 + (x - (t + 2)) + 1 = x + 1 by omega]; exact okT_le v1 (by omega)) (fun y hy => v3 y (by omega))
              rw [show t + 2 + (x - (t + 2)) = x by omega] at this
              exact this
        · rw [hfo, eA]
          unfold pA
          rw [TA_sd, TA_se, TA_nm, TA_nk, TA_nj, TA_mi, TA_ki, TA_ji, r2.1 93 (by decide) (by decide), r2.1 94 (by decide) (by decide), r2.1 95 (by decide) (by decide), r2.1 96 (by decide) (by decide), r2.1 97 (by decide) (by decide), r2.1 98 (by decide) (by decide), r2.1 99 (by decide) (by decide), r2.1 100 (by decide) (by decide), r2.1 101 (by decide) (by decide), r2.1 102 (by decide) (by decide), r2.1 103 (by decide) (by decide)]
          exact p11
        · rw [v6, Nat.add_assoc]
        · rw [v7, Nat.add_assoc]
        · rw [hfo, eA, TA_la]
          unfold udN
          by_cases ek : k' = k
          · rw [if_pos ek, ek]
            refine Or.inr ⟨t + 2 + e, bb, cb, ⟨by omega, by omega, by omega, v2, fun y a b => ?_, g3, gs0, go⟩, ?_, v10, ?_, ?_, ?_, ?_⟩
            · by_cases y0 : y = t
              · rw [y0]; omega
              · by_cases y1 : y = t + 1
                · rw [y1]; omega
                · have := v3 (y - (t + 2)) (by omega)
                  rw [show t + 2 + (y - (t + 2)) = y by omega] at this
                  exact this
            · rw [eat, Nat.add_sub_cancel_left]; exact v8
            · rw [eat]; exact v11
            · rw [eat]; exact v9
            · rw [eat]; exact Nat.le_refl _
            · rw [eat]; exact Nat.le_refl _
          · rw [if_neg ek]
            have r104 : im' 104 (3 * s + k') = im 104 (3 * s + k') := r2.2.2.1 104 _ (Or.inl rfl) (by omega)
            have r105 : im' 105 (3 * s + k') = im 105 (3 * s + k') := r2.2.2.1 105 _ (Or.inr rfl) (by omega)
            rw [r104, r105]
            rcases l5 k' hk' with q | ⟨e', b', c', y1, y2, y3, y4, y5, y6, y7⟩
            · exact Or.inl q
            · refine Or.inr ⟨e', b', c', lwOk_mo y1 (by omega), y2, y3, y4, ⟨fun b hb => ?_, fun x hx2 => ?_⟩, by omega, by omega⟩
              · have := y5.1 b hb
                rw [r2.2.2.2.1 106 _ (by decide) (by decide) (Or.inl (by omega)), r2.2.2.2.1 107 _ (by decide) (by decide) (Or.inl (by omega)), r2.2.2.2.1 108 _ (by decide) (by decide) (Or.inl (by omega)), r2.2.2.2.1 109 _ (by decide) (by decide) (Or.inl (by omega)), r2.2.2.2.1 110 _ (by decide) (by decide) (Or.inl (by omega))]
                exact this
              · rw [r2.2.2.2.2 111 _ (Or.inl rfl) (Or.inl (by omega)), r2.2.2.2.2 112 _ (Or.inr rfl) (Or.inl (by omega))]
                exact y5.2 x hx2
    · obtain ⟨T, t1, t2, t3⟩ := M_law12B (lm := lm) (bl := 130 * s + bb) (bu := 130 * s + 130) (c := 420 * s + cb) (u := 420 * s + 420) (by omega) hB J135 (Nat.le_refl _) (by omega) (nI k) (nI (130 * s + bb)) 0
      exact ⟨T, hst T (hl0.trans t1), LG.mf (i := 3 * s) (LF.lg (f1.tr t2)) (by omega) (by omega) (by omega) (by omega) (by omega) (by omega), Or.inl t3⟩
  · obtain ⟨T, t1, t2, t3⟩ := M_law12B (lm := lm) (bl := 130 * s + bb) (bu := 130 * s + 130) (c := 420 * s + cb) (u := 420 * s + 420) (by omega) hB J035 (Nat.le_refl _) (by omega) (nI k) (nI (130 * s + bb)) 0
    refine ⟨T, hst T ?_, LG.mf (i := 3 * s) (LF.lg (f0.tr t2)) (by omega) (by omega) (by omega) (by omega) (by omega) (by omega), Or.inl t3⟩
    rw [← t1]
    simp (decide := true) only [QX12_tellLaw, M_mustB hB, gm_cont_v, J035, n1, if_true]
end
