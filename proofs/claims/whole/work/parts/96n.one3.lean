/-! one tell of the reference -/
section
variable {K V P W : Nat → Nat} {M : Nat}
theorem gf_t {t so : Nat} (h0 : (gst K g0 t).w = 0) (hk : K t = 128 + so) (hs : so < 8) : gf (gst K g0 t) (K t) = (if gMost so ≤ (gst K g0 t).tm so then 2 else 0) := by
  unfold gf; rw [if_pos h0, hk, if_neg (by omega), Nat.add_sub_cancel_left]
theorem gFd_t {t so : Nat} (h0 : (gst K g0 t).w = 0) (hk : K t = 128 + so) (hs : so < 5) : gFd K (t + 1) (gNa so) (gIn so) := by
  have e : gst K g0 (t + 1) = (GS.mk 1 (gNa so) (gIn so) (gst K g0 t).sc (gst K g0 t).op (gst K g0 t).fi (udN (gst K g0 t).tm so ((gst K g0 t).tm so + 1))) := by
    show gn (gst K g0 t) (K t) = _
    unfold gn; rw [if_pos h0, hk, if_neg (by omega), Nat.add_sub_cancel_left]
  unfold gFd
  rw [e, GS_w, GS_nm, GS_it]
  exact ⟨rfl, rfl, rfl⟩
/-- onto the word's next token, where only tokens limit -/
theorem M_goesT {im : gm_I} {lm : gm_L} {t so : Nat} (hk : mTks im lm K V P W (M + 1)) (hc : cxP K M) (hok : okT K g0 t) (hp : pO im t) (h0 : (gst K g0 t).w = 0) (hkt : K t = 128 + so) (hs : so < 8) (hmost : gMost so = 400) (htm : (gst K g0 t).tm so ≤ t) : ∃ im', gm_den 179 0 [.ref 84] [] 128 gm_RF im lm = some (none, 128, gm_RF, im', lm) ∧ Fo [11, 13, 14] im im' ∧ ((okT K g0 (t + 1) ∧ pO im' (t + 1)) ∨ pB K P im') := by
  have hg := gf_t h0 hkt hs
  rw [hmost] at hg
  have hgE : ¬ gE K g0 t := gE_k (by omega)
  by_cases h4 : 400 ≤ (gst K g0 t).tm so
  · rw [if_pos h4] at hg
    have ht : t = 400 := by have := hok.1; omega
    obtain ⟨J, j1, j2, j3⟩ := M_failO hk hc hok hp (foT_bad hok hgE hg (by decide)) (by decide) (by decide)
    have e : im 84 11 = 400 := by rw [hp.1, ht]; rfl
    have z2 : nI 2 = 2 := rfl
    rw [z2] at j1
    refine ⟨J, ?_, j2, Or.inr j3⟩
    simp (decide := true) only [QX12_goesOn, e, if_true, if_false, not_true_eq_false, j1, gm_cont_v]
  · rw [if_neg h4] at hg
    exact M_goes hk hc hok hp hgE hg
/-- room for one more -/
theorem M_room {im : gm_I} {lm : gm_L} {t so has : Nat} (hk : mTks im lm K V P W (M + 1)) (hc : cxP K M) (hok : okT K g0 t) (hp : pO im t) (h0 : (gst K g0 t).w = 0) (hkt : K t = 128 + so) (hs : so < 8) (htm : (gst K g0 t).tm so = has) (hle : has ≤ gMost so) {c : Int32} (ec : c = nI (gMost so)) : ∃ im', gm_den 185 0 [.ref 84, .int (nI has), .int c] [] 128 gm_RF im lm = some (none, 128, gm_RF, im', lm) ∧ Fo [11, 13, 14] im im' ∧ ((okT K g0 (t + 1) ∧ pO im' (t + 1) ∧ has < gMost so) ∨ pB K P im') := by
  subst ec
  have hg := gf_t h0 hkt hs
  have hgE : ¬ gE K g0 t := gE_k (by omega)
  have hml := gMost_le so
  by_cases h4 : gMost so ≤ (gst K g0 t).tm so
  · rw [if_pos h4] at hg
    obtain ⟨J, j1, j2, j3⟩ := M_failO hk hc hok hp (foT_bad hok hgE hg (by decide)) (by decide) (by decide)
    have e : nI has = nI (gMost so) := by rw [show has = gMost so by omega]
    have z2 : nI 2 = 2 := rfl
    rw [z2] at j1
    have e13 := (pB_ne j3).1
    refine ⟨J, ?_, j2, Or.inr j3⟩
    simp (decide := true) only [QX12_roomFor, e, if_true, if_false, not_true_eq_false, j1, gm_cont_v, e13, not_false_eq_true]
  · rw [if_neg h4] at hg
    obtain ⟨J, j1, j2, j3⟩ := M_goes hk hc hok hp hgE hg
    have e : ¬ nI has = nI (gMost so) := fun h => by
      have := (nK_eq (by omega) (by omega)).mp h
      omega
    refine ⟨J, ?_, j2, ?_⟩
    · simp (decide := true) only [QX12_roomFor, e, if_true, if_false, not_false_eq_true, hp.2, not_true_eq_false, j1, gm_cont_v]
    · rcases j3 with ⟨a, b⟩ | a
      · exact Or.inl ⟨a, b, by omega⟩
      · exact Or.inr a
/-- sides and seed: one number -/
theorem M_num (hx : tcx K V P W M) {s t so : Nat} {im : gm_I} {lm : gm_L} (hs : s < 2) (h : pI K V P W M s im lm t) (hso : so = 0 ∨ so = 4) (hkt : K t = 128 + so) (row pc pc2 pc3 : Nat) (lo hi : Nat) (hlo : lo ≤ 10) (hhi : hi ≤ 9999) (hlo2 : lo = gLo so 0) (hhi2 : hi = gHi so 0) (hrow : (so = 0 ∧ row = 93) ∨ (so = 4 ∧ row = 103)) (hE : ∀ (J0 J1 J2 : gm_I) (r : Int32), gm_den 179 0 [.ref 84] [] 128 gm_RF im lm = some (none, 128, gm_RF, J0, lm) → J0 84 19 = nI s → gm_den 189 0 [.ref 84, .int (nI lo), .int (nI hi), .null] [] 128 gm_RF J0 lm = some (some (.int r), 128, gm_RF, J1, lm) → gm_den 180 0 [.ref 84, .int 4] [] 128 gm_RF (gm_up J1 row s r) lm = some (none, 128, gm_RF, J2, lm) → gm_den 186 0 [.ref 84, .null] [] 128 gm_RF im lm = some (none, 128, gm_RF, J2, lm)) : ∃ im', gm_den 186 0 [.ref 84, .null] [] 128 gm_RF im lm = some (none, 128, gm_RF, im', lm) ∧ mF s im im' ∧ (pB K P im' ∨ ∃ t', t < t' ∧ pI K V P W M s im' lm t') := by
  have hI := h
  obtain ⟨p1, p2, p3, p4, p5, p6, p7, p8, p9, p10, p11, p12⟩ := h
  have hJ := gst_J (V := V) p1
  have hso5 : so < 5 := by omega
  have hmost : gMost so = 400 := by rcases hso with rfl | rfl <;> rfl
  have hna : gNa so = 0 := by rcases hso with rfl | rfl <;> rfl
  have hin : gIn so = 1 := by rcases hso with rfl | rfl <;> rfl
  have htm : (gst K g0 t).tm so ≤ t := by
    rcases hso with rfl | rfl
    · exact hJ.2.2.2.2.1
    · exact hJ.2.2.2.2.2.1
  have hwid : s * sWd row ≤ s ∧ s < s * sWd row + sWd row := by
    have : sWd row = 1 := by rcases hrow with ⟨-, rfl⟩ | ⟨-, rfl⟩ <;> rfl
    rw [this]; omega
  have hr93 : 93 ≤ row ∧ row ≤ 103 := by omega
  obtain ⟨J0, j1, j2, j3⟩ := M_goesT p4 hx.1 p1 p3 p2 hkt (by omega) hmost htm
  have hf := gFd_t p2 hkt hso5
  rw [hna, hin] at hf
  have hs0 : stgS K P J0 (t + 1) 1 (wP (foA K V t)) ∨ pB K P J0 := by
    rcases j3 with ⟨a, b⟩ | a
    · refine Or.inl ⟨a, b, hf, wR_fr (wP_R p7) (j2.2 15 (by decide)) (j2.2 16 (by decide)), ?_, ?_⟩
      · unfold wP; split; exact Nat.zero_le _; exact p8.1
      · unfold wP
        split
        · intro h; exact absurd rfl h
        · intro h; have := p8.2 h; show (foA K V t).wt < t + 1; omega
    · exact Or.inr a
  obtain ⟨J1, r, b1, f1, s1⟩ := M_bd hx (Fo.tk j2 p4) hs0 hlo hhi
  have hs1 : stgS K P J1 (t + 1 + 1) 0 (wrB V lo hi (t + 1) (wP (foA K V t)).1 (wP (foA K V t)).2) ∨ pB K P J1 := by
    rcases s1 with ⟨-, -, -, h⟩ | h
    · exact Or.inl h
    · exact Or.inr h
  have hk1 : mTks (gm_up J1 row s r) lm K V P W (M + 1) := gu_tk hr93.1 (Fo.tk f1 (Fo.tk j2 p4))
  have J019 : J0 84 19 = nI s := by rw [j2.2 19 (by decide)]; exact p6
  have T1 : TF s im (gm_up J1 row s r) := ((Fo.tf j2 (by decide)).tr (Fo.tf f1 (by decide))).tr (TF.up J1 r hr93.1 hr93.2 hwid)
  rcases stgS_up (q := row) (k := s) (v := r) (by omega) hs1 with ⟨o1, o2, o3, o4, o5, o6⟩ | hB
  · obtain ⟨g1, g2⟩ := gFd_e o3
    obtain ⟨J2, q1, q2, q3⟩ := M_must hk1 hx.1 o1 o2 (gE_w (by have := o3.1; omega)) (k := 59) rfl g1 (c := 4) rfl
    have T2 : TF s im J2 := T1.tr (Fo.tf q2 (by decide))
    refine ⟨J2, hE J0 J1 J2 r j1 J019 b1 q1, TF.mf T2, ?_⟩
    rcases q3 with ⟨k59, -, u1, u2⟩ | hB
    · rcases s1 with ⟨k2, v1, z0, -⟩ | hB
      · have hfo : foA K V (t + 2 + 1) = tlT K V (foA K V t) t := foA_in (d := 2) (fun x a b => by
          rcases (by omega : x = t ∨ x = t + 1) with rfl | rfl <;> omega) ((hJ.1).mp p2)
        refine Or.inr ⟨t + 2 + 1, by omega, pI_mk hx hs hI T2 (Fr.rf _ _) (by omega) u1 g2 u2 hso5 hkt hfo (by omega) (w := wrB V lo hi (t + 1) (wP (foA K V t)).1 (wP (foA K V t)).2) ?_ (wR_fr o4 (q2.2 15 (by decide)) (q2.2 16 (by decide))) ?_ ?_ ?_⟩
        · have := wrS (V := V) (s := so) (fi := t + 1) (f := 0) (i := 0) (wP_z (foA K V t)) (fun w => w) (fun w hw => wr_id so (t + 1) 1 w hw)
          rw [Nat.add_zero, ← hlo2, ← hhi2] at this
          rw [this]
          have hsf : sfT K V t = rgS V so (t + 1) 1 0 := by
            unfold sfT; rw [hkt, Nat.add_sub_cancel_left, hna, hin, if_neg (by omega)]
          rw [hsf]
        all_goals
          obtain ⟨w1, w2, w3, w4, w5, w6, w7, w8, w9⟩ := tlW_n K V (foA K V t) t
        · have : (foA K V (t + 2 + 1)).nm = (foA K V t).nm ∧ (foA K V (t + 2 + 1)).nk = (foA K V t).nk ∧ (foA K V (t + 2 + 1)).nj = (foA K V t).nj := by
            rw [hfo]; unfold tlT
            rcases hso with rfl | rfl
            · rw [if_pos hkt]; exact ⟨w1, w2, w3⟩
            · rw [if_neg (by omega), if_neg (by omega), if_neg (by omega), if_neg (by omega), if_pos hkt]; exact ⟨w1, w2, w3⟩
          rw [this.1, this.2.1, this.2.2, q2.2 20 (by decide), gu_ne (by omega), f1.2 20 (by decide), j2.2 20 (by decide)]
          exact p9
        · have : (foA K V (t + 2 + 1)).nm = (foA K V t).nm ∧ (foA K V (t + 2 + 1)).nk = (foA K V t).nk ∧ (foA K V (t + 2 + 1)).nj = (foA K V t).nj := by
            rw [hfo]; unfold tlT
            rcases hso with rfl | rfl
            · rw [if_pos hkt]; exact ⟨w1, w2, w3⟩
            · rw [if_neg (by omega), if_neg (by omega), if_neg (by omega), if_neg (by omega), if_pos hkt]; exact ⟨w1, w2, w3⟩
          rw [this.1, this.2.1, this.2.2]
          have k59' : K (t + 2) = 59 := k59
          exact nmR_ext p10 (by omega) (fun x a b => by
            rcases (by omega : x = t ∨ x = t + 1 ∨ x = t + 2) with rfl | rfl | rfl <;> omega)
        · have R : ∀ q, q ≠ 84 → q ≠ row → J2 q = im q := fun q h0 h1 => by
            rw [q2.1 q h0, gu_row h1, f1.1 q h0, j2.1 q h0]
          have Rr : J2 row s = nI (V (t + 1)) := by rw [q2.1 row (by omega), gu_eq, v1]
          obtain ⟨⟨a1, a2, a3, a4, a5⟩, am, ak, aj⟩ := p11
          rw [hfo]
          unfold tlT pA
          rcases hrow with ⟨rfl, rfl⟩ | ⟨rfl, rfl⟩
          · rw [if_pos hkt]
            rw [TA_sd, TA_se, TA_nm, TA_nk, TA_nj, TA_mi, TA_ki, TA_ji, w1, w2, w3, w5, w6, w7, w8, Rr, R 94 (by decide) (by decide), R 95 (by decide) (by decide), R 96 (by decide) (by decide), R 97 (by decide) (by decide), R 98 (by decide) (by decide), R 99 (by decide) (by decide), R 100 (by decide) (by decide), R 101 (by decide) (by decide), R 102 (by decide) (by decide), R 103 (by decide) (by decide)]
            exact ⟨⟨rfl, a2, a3, a4, a5⟩, am, ak, aj⟩
          · rw [if_neg (by omega), if_neg (by omega), if_neg (by omega), if_neg (by omega), if_pos hkt]
            rw [TA_sd, TA_se, TA_nm, TA_nk, TA_nj, TA_mi, TA_ki, TA_ji, w1, w2, w3, w4, w6, w7, w8, Rr, R 93 (by decide) (by decide), R 94 (by decide) (by decide), R 95 (by decide) (by decide), R 96 (by decide) (by decide), R 97 (by decide) (by decide), R 98 (by decide) (by decide), R 99 (by decide) (by decide), R 100 (by decide) (by decide), R 101 (by decide) (by decide), R 102 (by decide) (by decide)]
            exact ⟨⟨a1, a2, a3, a4, rfl⟩, am, ak, aj⟩
      · exfalso
        have e : gm_up J1 row s r 84 13 = J1 84 13 := gu_ne (by omega)
        have := o2.2
        rw [e] at this
        exact (pB_ne hB).1 this
    · exact Or.inl hB
  · refine ⟨gm_up J1 row s r, hE J0 J1 _ r j1 J019 b1 (M_mustB hB 4), TF.mf T1, Or.inl hB⟩
end
