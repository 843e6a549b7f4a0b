/-! the reference reads a law to its end -/
section
variable {K V P W : Nat → Nat} {M : Nat}
/-- what is left where a law ends -/
def lwE (K V P W : Nat → Nat) (M a z B s k : Nat) (lm : gm_L) (im0 im' : gm_I) : Prop := pB K P im' ∨ ∃ e, okT K g0 (a + e + 1) ∧ K (a + e) = 59 ∧ (∀ y, y < e → ¬ K (a + y) = 59) ∧ pO im' (a + e + 1) ∧ im' 84 12 = 0 ∧ im' 84 35 = nI (B + (lwR K V a (e + 1)).nb) ∧ im' 84 41 = nI (z + (lwR K V a (e + 1)).cn) ∧ lfP (lwR K V a (e + 1)) (e + 1) ∧ mReg im' (lwR K V a (e + 1)) B z ∧ im' 104 (3 * s + k) = nI B ∧ im' 105 (3 * s + k) = nI (B + (lwR K V a (e + 1)).nb)
/-- frames with the two rows of where laws begin and end -/
def LG (bl bu c u i : Nat) (im im' : gm_I) : Prop := (∀ q, q ≠ 84 → (q < 104 ∨ 113 < q) → im' q = im q) ∧ (∀ j, j ∉ [11, 12, 13, 14, 35, 41, 45] → im' 84 j = im 84 j) ∧ (∀ q y, q = 104 ∨ q = 105 → y ≠ i → im' q y = im q y) ∧ (∀ q y, 106 ≤ q → q ≤ 110 → (y < bl ∨ bu ≤ y) → im' q y = im q y) ∧ (∀ q y, q = 111 ∨ q = 112 → (y < c ∨ u ≤ y) → im' q y = im q y)
theorem LF.lg {bl bu c u i : Nat} {x y : gm_I} (h : LF bl bu c u x y) : LG bl bu c u i x y := ⟨fun q a b => h.1 q a (by omega), h.2.1, fun q y a _ => by rw [h.1 q (by omega) (by omega)], h.2.2.1, h.2.2.2⟩
theorem LG.tr {bl bu c u i : Nat} {x y z : gm_I} (h : LG bl bu c u i x y) (k : LG bl bu c u i y z) : LG bl bu c u i x z := ⟨fun q a b => (k.1 q a b).trans (h.1 q a b), fun j hj => (k.2.1 j hj).trans (h.2.1 j hj), fun q y a b => (k.2.2.1 q y a b).trans (h.2.2.1 q y a b), fun q y a b d => (k.2.2.2.1 q y a b d).trans (h.2.2.2.1 q y a b d), fun q y a b => (k.2.2.2.2 q y a b).trans (h.2.2.2.2 q y a b)⟩
theorem LF.mo {bl bl' bu c u : Nat} {x y : gm_I} (h : LF bl' bu c u x y) (hb : bl ≤ bl') : LF bl bu c u x y := ⟨h.1, h.2.1, fun q y a b d => h.2.2.1 q y a b (by omega), h.2.2.2⟩
theorem brS_cg {im im' : gm_I} {B z : Nat} {L L' : LW} {b : Nat} (h : brS im B z L b) (h1 : ∀ q, 106 ≤ q → q ≤ 110 → im' q (B + b) = im q (B + b)) (e1 : L'.hs b = L.hs b) (e2 : L'.t0 b = L.t0 b) (e3 : L'.t1 b = L.t1 b) (e4 : L'.t2 b = L.t2 b) (e5 : L'.t3 b = L.t3 b) : brS im' B z L' b := by
  unfold brS
  rw [h1 106 (by decide) (by decide), h1 107 (by decide) (by decide), h1 108 (by decide) (by decide), h1 109 (by decide) (by decide), h1 110 (by decide) (by decide), e1, e2, e3, e4, e5]
  exact h
theorem cdS_fr {im im' : gm_I} {z : Nat} {L L' : LW} (h : cdS im z L) (h1 : im' 84 41 = im 84 41) (h2 : im' 111 = im 111) (h3 : im' 112 = im 112) (e1 : L'.cn = L.cn) (e2 : L'.C = L.C) (e3 : L'.wn = L.wn) : cdS im' z L' := by
  unfold cdS
  rw [h1, h2, h3, e1, e2, e3]
  exact h
theorem M_lawO (hc : cxP K M) (hV2 : ∀ t, K t = 2 → V t ≤ 9999) {a z u B B0 s k : Nat} (g3 : (gst K g0 a).w = 3) (gs0 : (gst K g0 a).sc = 0) (go : (gst K g0 a).op = 0) (hza : z + 410 ≤ u + a) (h840 : u ≤ 840) (hB0 : 4 * B ≤ 4 * B0 + a) (hB1 : B0 ≤ B) (hB2 : B0 + 130 ≤ 260) (hs : s < 2) (hk3 : k < 3) (lm : gm_L) (im0 : gm_I) (h19 : im0 84 19 = nI s) : ∀ (w x fi : Nat) (im : gm_I), 401 ≤ a + x + w → okT K g0 (a + x) → (∀ y, y < x → ¬ K (a + y) = 59) → (gst K g0 (a + x)).w = 3 → (gst K g0 (a + x)).sc = 0 → (gst K g0 (a + x)).op = 0 → (gst K g0 (a + x)).fi = fi → pO im (a + x) → mTks im lm K V P W (M + 1) → cdS im z (lwR K V a x) → im 84 12 = 0 → im 84 35 = nI (B + (lwR K V a x).nb) → (∀ b, b < (lwR K V a x).nb → brS im B z (lwR K V a x) b) → LF B (B0 + 130) z u im0 im → ∃ im', gm_den 193 12 [.ref 84, .int (nI k), .int (nI B), .int (nI fi)] [] 128 gm_RF im lm = some (none, 128, gm_RF, im', lm) ∧ LG B (B0 + 130) z u (3 * s + k) im0 im' ∧ lwE K V P W M a z B s k lm im0 im' := by
  have hK148 : ∀ t, K t < 148 := fun t => kOk_lt (hc.2.2.2 t)
  intro w
  induction w with
  | zero => intro x fi im hw hok; exact absurd hok.1 (by omega)
  | succ w ih =>
    intro x fi im hw hok hne w3 sc0 op0 hfi hp hk hcd h12 h35 hbr hF
    have h400 := hok.1
    obtain ⟨hl, -⟩ := law_go (V := V) hK148 hV2 g3 gs0 go x hok hne
    have hl2 := hl
    obtain ⟨-, -, -, ⟨-, -, i7⟩, hbT, ⟨hv0, hu0⟩, i10⟩ := hl2
    have hphi : phi (gst K g0 (a + x)).w (gst K g0 (a + x)).sc = 0 := by rw [w3, sc0]; rfl
    have hnb : 4 * (B + (lwR K V a x).nb) ≤ 4 * B0 + 400 := by omega
    obtain ⟨-, -, hcv⟩ := i10 sc0
    have hgE : ¬ gE K g0 (a + x) := gE_w (by omega)
    have hi := M_isK hk hc hok hp (k := 136) rfl (c := 28) rfl
    have eG : gst K g0 (a + (x + 1)) = gn (gst K g0 (a + x)) (K (a + x)) := rfl
    have c2 : gm_in (nI (B + (lwR K V a x).nb)) 260 = true := gm_in_nI (by omega) (by decide)
    have c3 : (nI (B + (lwR K V a x).nb)).toNatClampNeg = B + (lwR K V a x).nb := nI_clamp (by omega)
    have hb1 : B ≤ B + (lwR K V a x).nb := by omega
    have hb2 : B + (lwR K V a x).nb + 1 < B0 + 130 := by omega
    have hfi4 : (gst K g0 (a + x)).fi ≤ 4 := (gBd_st hok).2.2.2.2.2.1
    by_cases k136 : K (a + x) = 136
    · rw [show (K (a + x) == 136) = true by simp [k136]] at hi
      have hg : gf (gst K g0 (a + x)) (K (a + x)) = if 4 ≤ (gst K g0 (a + x)).fi then 2 else 0 := by
        unfold gf; rw [if_neg (by omega), if_neg (by omega), if_neg (by omega), if_pos w3, if_pos k136, if_pos sc0]
      by_cases h4 : 4 ≤ (gst K g0 (a + x)).fi
      · rw [if_pos h4] at hg
        obtain ⟨J, j1, j2, j3⟩ := M_failO hk hc hok hp (foT_bad hok hgE hg (by decide)) (by decide) (by decide)
        have e4 : nI fi = 4 := by rw [← hfi, show (gst K g0 (a + x)).fi = 4 by omega]; rfl
        have z2 : nI 2 = 2 := rfl
        rw [z2] at j1
        have e := (pB_ne j3).2
        refine ⟨J, ?_, LF.lg (hF.tr (Fo.lf j2)), Or.inl j3⟩
        rw [LX12_tellLaw_12]
        simp (decide := true) only [QX12_tellLaw, hp.2, hi, gm_cont_i, b32_t, if_false, if_true, e4, not_true_eq_false, j1, gm_cont_v, e]
      · rw [if_neg h4] at hg
        have n4 : ¬ nI fi = 4 := fun h => by
          have := (nK_eq (c := 4) (by omega) (by decide)).mp h
          omega
        have e13 : im 84 13 ≤ 0 := by rw [hp.2]; decide
        obtain ⟨G, q1, q2, q3⟩ := M_goes hk hc hok hp hgE hg
        have hst : gm_den 193 12 [.ref 84, .int (nI k), .int (nI B), .int (nI fi)] [] 128 gm_RF im lm = gm_den 193 53 [.ref 84, .int (nI k), .int (nI B), .int (nI (fi + 1))] [] 128 gm_RF G lm := by
          rw [LX12_tellLaw_12]
          simp (decide := true) only [QX12_tellLaw, hp.2, hi, gm_cont_i, b32_t, if_false, if_true, n4, not_true_eq_false, not_false_eq_true, q1, gm_cont_v, nI_a1]
        have G35 : G 84 35 = nI (B + (lwR K V a x).nb) := by rw [q2.2 35 (by decide)]; exact h35
        rcases q3 with ⟨o1, o2⟩ | hBd
        · -- the test
          have hgn1 : gst K g0 (a + (x + 1)) = (GS.mk (gst K g0 (a + x)).w (gst K g0 (a + x)).nm (gst K g0 (a + x)).it 1 (gst K g0 (a + x)).op ((gst K g0 (a + x)).fi + 1) (gst K g0 (a + x)).tm) := by
            rw [eG]; unfold gn; rw [if_neg (by omega), if_neg (by omega), if_neg (by omega), if_pos w3, if_pos k136]
          have eL1 : lwR K V a (x + 1) = (LW.mk (lwR K V a x).W (lwR K V a x).wn (lwR K V a x).C (lwR K V a x).cn (lwR K V a x).S (lwR K V a x).sn (lwR K V a x).li (lwR K V a x).nb (udN (lwR K V a x).hs (lwR K V a x).nb 1) (udN (lwR K V a x).t0 (lwR K V a x).nb (lwR K V a x).cn) (lwR K V a x).t1 (lwR K V a x).t2 (lwR K V a x).t3 (lwR K V a x).u (lwR K V a x).v) := by
            show lwT (lwR K V a x) (K (a + x)) (V (a + x)) = _
            rw [k136]; unfold lwT; simp (decide := true) only [if_true, if_false]
          have hb1' : B + (lwR K V a x).nb ≤ B + (lwR K V a x).nb := Nat.le_refl _
          generalize hN : (lwR K V a x).nb = nb at *
          have G41 : G 84 41 = nI (z + (lwR K V a x).cn) := by rw [q2.2 41 (by decide)]; exact hcd.1
          have e1 : gm_up G 106 (B + nb) 1 84 35 = nI (B + nb) := by rw [gu_ne (by decide)]; exact G35
          have e2 : gm_up G 106 (B + nb) 1 84 41 = nI (z + (lwR K V a x).cn) := by rw [gu_ne (by decide)]; exact G41
          let Q1 := gm_up (gm_up G 106 (B + nb) 1) 107 (B + nb) (nI (z + (lwR K V a x).cn))
          have fQ1 : LF (B + nb) (B0 + 130) z u im Q1 := ((Fo.lf q2).tr (LF.br G 1 (by decide) (by decide) hb1' (by omega))).tr (LF.br _ _ (by decide) (by decide) hb1' (by omega))
          have Q84 : ∀ j, Q1 84 j = G 84 j := fun j => by
            show gm_up (gm_up G 106 _ _) 107 _ _ 84 j = _
            rw [gu_ne (by decide), gu_ne (by decide)]
          have hne1 : ∀ y, y < x + 1 → ¬ K (a + y) = 59 := fun y hy => by
            by_cases e : y = x
            · rw [e]; omega
            · exact hne y (by omega)
          have hcd1 : cdS Q1 z (lwR K V a (x + 1)) := by
            rw [eL1]
            refine cdS_fr hcd (by rw [Q84, q2.2 41 (by decide)]) ?_ ?_ rfl rfl rfl
            · show gm_up (gm_up G 106 _ _) 107 _ _ 111 = _
              rw [gu_row (by decide), gu_row (by decide), q2.1 111 (by decide)]
            · show gm_up (gm_up G 106 _ _) 107 _ _ 112 = _
              rw [gu_row (by decide), gu_row (by decide), q2.1 112 (by decide)]
          obtain ⟨J2, j1, j2, j3⟩ := M_exm (c := z) hc hV2 g3 gs0 go (Nat.le_refl _) hza h840 (x := x + 1) (im := Q1) (k := 60) (sc := 1) o1 hne1 (by unfold pO; rw [Q84, Q84]; exact o2) (fQ1.tk hk) hcd1 (by rw [Q84, q2.2 12 (by decide)]; exact h12) (by rw [hgn1]; exact op0) (by rw [hgn1]; exact w3) (fun h => by rw [hgn1] at h; cases h) rfl (by rw [hgn1]; rfl) rfl
          have hst2 : gm_den 193 53 [.ref 84, .int (nI k), .int (nI B), .int (nI (fi + 1))] [] 128 gm_RF G lm = gm_den 193 80 [.ref 84, .int (nI k), .int (nI B), .int (nI (fi + 1))] [] 128 gm_RF J2 lm := by
            simp (decide := true) only [QX12_tellLaw, G35, c2, c3, if_true, e1, e2]
            refine (congrArg _ j1).trans ?_
            simp (decide := true) only [QX12_tellLaw, gm_cont_v]
          have fJ2 : LF (B + nb) (B0 + 130) z u im J2 := fQ1.tr (Ck.lf j2)
          have J35 : J2 84 35 = nI (B + nb) := by rw [j2.2.1 35 (by decide), Q84]; exact G35
          rcases j3 with hBd | ⟨x2, p1, p2, p3, p4, p5, p6, p7, p8, p9, p10, p11, p12, p13⟩
          · obtain ⟨T, t1, t2, t3⟩ := M_law80B (lm := lm) (bl := B + nb) (bu := B0 + 130) (c := z) (u := u) (by omega) hBd J35 hb1' hb2 (nI k) (nI B) (nI (fi + 1))
            exact ⟨T, (hst.trans hst2).trans t1, LF.lg (hF.tr (LF.mo (fJ2.tr t2) (by omega))), Or.inl t3⟩
          · -- the sign <
            obtain ⟨J3, m1, m2, m3⟩ := M_must (fJ2.tk hk) hc p2 p4 (gE_w (by omega)) (k := 60) rfl p13 (c := 13) rfl
            have fJ3 : LF (B + nb) (B0 + 130) z u im J3 := fJ2.tr (Fo.lf m2)
            have J335 : J3 84 35 = nI (B + nb) := by rw [m2.2 35 (by decide)]; exact J35
            have hst3 : gm_den 193 80 [.ref 84, .int (nI k), .int (nI B), .int (nI (fi + 1))] [] 128 gm_RF J2 lm = gm_den 193 86 [.ref 84, .int (nI k), .int (nI B), .int (nI (fi + 1))] [] 128 gm_RF J3 lm := by
              simp (decide := true) only [QX12_tellLaw, m1, gm_cont_v]
            rcases m3 with ⟨k60, f60, o3, o4⟩ | hBd
            · have eL2 : lwR K V a (x2 + 1) = (LW.mk (rel 1 (lwR K V a x2)).W (rel 1 (lwR K V a x2)).wn (rel 1 (lwR K V a x2)).C (rel 1 (lwR K V a x2)).cn (rel 1 (lwR K V a x2)).S (rel 1 (lwR K V a x2)).sn (rel 1 (lwR K V a x2)).li (rel 1 (lwR K V a x2)).nb (rel 1 (lwR K V a x2)).hs (rel 1 (lwR K V a x2)).t0 (udN (lwR K V a x2).t1 (lwR K V a x2).nb (rel 1 (lwR K V a x2)).cn) (rel 1 (lwR K V a x2)).t2 (rel 1 (lwR K V a x2)).t3 (rel 1 (lwR K V a x2)).u (rel 1 (lwR K V a x2)).v) := by
                show lwT (lwR K V a x2) (K (a + x2)) (V (a + x2)) = _
                rw [k60]; unfold lwT; simp (decide := true) only [if_true, if_false]
              have hgn2 : gst K g0 (a + (x2 + 1)) = (GS.mk 3 (gst K g0 (a + x2)).nm (gst K g0 (a + x2)).it 2 (gst K g0 (a + x2)).op (gst K g0 (a + x2)).fi (gst K g0 (a + x2)).tm) := by
                show gn (gst K g0 (a + x2)) (K (a + x2)) = _
                unfold gn; rw [if_neg (by omega), if_neg (by omega), if_neg (by omega), if_neg (by omega), p9, cond_false, if_neg (by omega), if_pos p7]
              have ar2 := p11
              have arl := arE_rel 1 (lwR K V a x2).wn (lwR K V a x2)
              change arE (rel 1 (lwR K V a x2)) (lwR K V a x2) at arl
              have J341 : J3 84 41 = nI (z + (rel 1 (lwR K V a x2)).cn) := by rw [m2.2 41 (by decide)]; exact p12.1
              let Q3 := gm_up J3 108 (B + nb) (nI (z + (rel 1 (lwR K V a x2)).cn))
              have fQ3 : LF (B + nb) (B0 + 130) z u im Q3 := fJ3.tr (LF.br J3 _ (by decide) (by decide) hb1' (by omega))
              have Q384 : ∀ j, Q3 84 j = J3 84 j := fun j => gu_ne (by decide)
              have hne2 : ∀ y, y < x2 + 1 → ¬ K (a + y) = 59 := fun y hy => by
                by_cases e : y = x2
                · rw [e]; omega
                · exact p3 y (by omega)
              have hcd2 : cdS Q3 z (lwR K V a (x2 + 1)) := by
                rw [eL2]
                refine cdS_fr p12 (by rw [Q384, m2.2 41 (by decide)]) ?_ ?_ rfl rfl rfl
                · show gm_up J3 108 _ _ 111 = _
                  rw [gu_row (by decide), m2.1 111 (by decide)]
                · show gm_up J3 108 _ _ 112 = _
                  rw [gu_row (by decide), m2.1 112 (by decide)]
              obtain ⟨J4, s1, s2, s3⟩ := M_exm (c := z) hc hV2 g3 gs0 go (Nat.le_refl _) hza h840 (x := x2 + 1) (im := Q3) (k := 137) (sc := 2) o3 hne2 (by unfold pO; rw [Q384, Q384]; exact o4) (fQ3.tk hk) hcd2 (by rw [Q384, m2.2 12 (by decide)]; exact p10) (by rw [hgn2]; exact p6) (by rw [hgn2]; rfl) (fun h => by rw [hgn2] at h; cases h) rfl (by rw [hgn2]; rfl) rfl
              have Q313 : Q3 84 13 = 0 := by rw [Q384]; exact o4.2
              have hst4 : gm_den 193 86 [.ref 84, .int (nI k), .int (nI B), .int (nI (fi + 1))] [] 128 gm_RF J3 lm = gm_den 193 110 [.ref 84, .int (nI k), .int (nI B), .int (nI (fi + 1))] [] 128 gm_RF J4 lm := by
                have q13 : gm_up J3 108 (B + nb) (nI (z + (rel 1 (lwR K V a x2)).cn)) 84 13 = 0 := Q313
                simp (decide := true) only [QX12_tellLaw, J335, J341, c2, c3, if_true, if_false, q13]
                refine (congrArg _ s1).trans ?_
                simp (decide := true) only [QX12_tellLaw, gm_cont_v]
              have fJ4 : LF (B + nb) (B0 + 130) z u im J4 := fQ3.tr (Ck.lf s2)
              have J435 : J4 84 35 = nI (B + nb) := by rw [s2.2.1 35 (by decide), Q384]; exact J335
              rcases s3 with hBd | ⟨x3, u1, u2, u3, u4, u5, u6, u7, u8, u9, u10, u11, u12, u13⟩
              · obtain ⟨T, t1, t2, t3⟩ := M_law110B (lm := lm) (bl := B + nb) (bu := B0 + 130) (c := z) (u := u) (by omega) hBd J435 hb1' hb2 (nI k) (nI B) (nI (fi + 1))
                exact ⟨T, (((hst.trans hst2).trans hst3).trans hst4).trans t1, LF.lg (hF.tr (LF.mo (fJ4.tr t2) (by omega))), Or.inl t3⟩
              · -- then
                obtain ⟨J5, n1, n2, n3⟩ := M_must (fJ4.tk hk) hc u2 u4 (gE_w (by omega)) (k := 137) rfl u13 (c := 29) rfl
                have fJ5 : LF (B + nb) (B0 + 130) z u im J5 := fJ4.tr (Fo.lf n2)
                have J535 : J5 84 35 = nI (B + nb) := by rw [n2.2 35 (by decide)]; exact J435
                have hst5 : gm_den 193 110 [.ref 84, .int (nI k), .int (nI B), .int (nI (fi + 1))] [] 128 gm_RF J4 lm = gm_den 193 116 [.ref 84, .int (nI k), .int (nI B), .int (nI (fi + 1))] [] 128 gm_RF J5 lm := by
                  simp (decide := true) only [QX12_tellLaw, n1, gm_cont_v]
                rcases n3 with ⟨k137, f137, o5, o6⟩ | hBd
                · have eL3 : lwR K V a (x3 + 1) = apS (LW.mk (rel 1 (lwR K V a x3)).W (rel 1 (lwR K V a x3)).wn (rel 1 (lwR K V a x3)).C (rel 1 (lwR K V a x3)).cn (rel 1 (lwR K V a x3)).S (rel 1 (lwR K V a x3)).sn (rel 1 (lwR K V a x3)).sn (rel 1 (lwR K V a x3)).nb (rel 1 (lwR K V a x3)).hs (rel 1 (lwR K V a x3)).t0 (rel 1 (lwR K V a x3)).t1 (udN (rel 1 (lwR K V a x3)).t2 (lwR K V a x3).nb (rel 1 (lwR K V a x3)).cn) (rel 1 (lwR K V a x3)).t3 (rel 1 (lwR K V a x3)).u (rel 1 (lwR K V a x3)).v) (60, 0) := by
                    show lwT (lwR K V a x3) (K (a + x3)) (V (a + x3)) = _
                    rw [k137]; unfold lwT; simp (decide := true) only [if_true, if_false]
                  have hgn3 : gst K g0 (a + (x3 + 1)) = (GS.mk 3 (gst K g0 (a + x3)).nm (gst K g0 (a + x3)).it 3 (gst K g0 (a + x3)).op (gst K g0 (a + x3)).fi (gst K g0 (a + x3)).tm) := by
                    show gn (gst K g0 (a + x3)) (K (a + x3)) = _
                    unfold gn; rw [if_neg (by omega), if_neg (by omega), if_neg (by omega), if_neg (by omega), u9, cond_false, if_neg (by omega), if_neg (by omega), if_pos u7]
                  have ar3 := u11
                  have arl3 := arE_rel 1 (lwR K V a x3).wn (lwR K V a x3)
                  change arE (rel 1 (lwR K V a x3)) (lwR K V a x3) at arl3
                  have J541 : J5 84 41 = nI (z + (rel 1 (lwR K V a x3)).cn) := by rw [n2.2 41 (by decide)]; exact u12.1
                  let Q5 := gm_up J5 109 (B + nb) (nI (z + (rel 1 (lwR K V a x3)).cn))
                  have fQ5 : LF (B + nb) (B0 + 130) z u im Q5 := fJ5.tr (LF.br J5 _ (by decide) (by decide) hb1' (by omega))
                  have Q584 : ∀ j, Q5 84 j = J5 84 j := fun j => gu_ne (by decide)
                  have hne3 : ∀ y, y < x3 + 1 → ¬ K (a + y) = 59 := fun y hy => by
                    by_cases e : y = x3
                    · rw [e]; omega
                    · exact u3 y (by omega)
                  have hcd3 : cdS Q5 z (lwR K V a (x3 + 1)) := by
                    rw [eL3]
                    refine cdS_fr u12 (by rw [Q584, n2.2 41 (by decide)]) ?_ ?_ rfl rfl rfl
                    · show gm_up J5 109 _ _ 111 = _
                      rw [gu_row (by decide), n2.1 111 (by decide)]
                    · show gm_up J5 109 _ _ 112 = _
                      rw [gu_row (by decide), n2.1 112 (by decide)]
                  obtain ⟨J6, v1, v2, v3⟩ := M_exm (c := z) hc hV2 g3 gs0 go (Nat.le_refl _) hza h840 (x := x3 + 1) (im := Q5) (k := 138) (sc := 3) o5 hne3 (by unfold pO; rw [Q584, Q584]; exact o6) (fQ5.tk hk) hcd3 (by rw [Q584, n2.2 12 (by decide)]; exact u10) (by rw [hgn3]; exact u6) (by rw [hgn3]; rfl) (fun h => by rw [hgn3] at h; cases h) rfl (by rw [hgn3]; rfl) rfl
                  have fJ6 : LF (B + nb) (B0 + 130) z u im J6 := fQ5.tr (Ck.lf v2)
                  have J635 : J6 84 35 = nI (B + nb) := by rw [v2.2.1 35 (by decide), Q584]; exact J535
                  let Q6 := gm_up (gm_up J6 110 (B + nb) (J6 84 41)) 84 35 (nI (B + nb + 1))
                  have fQ6 : LF (B + nb) (B0 + 130) z u im Q6 := (fJ6.tr (LF.br J6 _ (by decide) (by decide) hb1' (by omega))).tr (LF.f35 _ _)
                  have Q684 : ∀ j, j ≠ 35 → Q6 84 j = J6 84 j := fun j hj => by
                    show gm_up (gm_up J6 110 _ _) 84 35 _ 84 j = _
                    rw [gu_nk hj, gu_ne (by decide)]
                  have hterm : gm_den 194 0 [.ref 84] [] 128 gm_RF J5 lm = some (none, 128, gm_RF, Q6, lm) := by
                    have q13 : gm_up J5 109 (B + nb) (nI (z + (rel 1 (lwR K V a x3)).cn)) 84 13 = 0 := by rw [gu_ne (by decide)]; exact o6.2
                    have q35 : gm_up J6 110 (B + nb) (J6 84 41) 84 35 = nI (B + nb) := by rw [gu_ne (by decide)]; exact J635
                    simp (decide := true) only [QX12_term, J535, J541, c2, c3, if_true, if_false, q13, not_true_eq_false]
                    refine (congrArg _ v1).trans ?_
                    simp (decide := true) only [QX12_term, gm_cont_v, J635, c2, c3, if_true, q35, nI_a1]
                    rfl
                  have hst6 : gm_den 193 116 [.ref 84, .int (nI k), .int (nI B), .int (nI (fi + 1))] [] 128 gm_RF J5 lm = gm_den 193 120 [.ref 84, .int (nI k), .int (nI B), .int (nI (fi + 1))] [] 128 gm_RF Q6 lm := by
                    simp (decide := true) only [QX12_tellLaw, hterm, gm_cont_v]
                  rcases v3 with hBd | ⟨x4, y1, y2, y3, y4, y5, y6, y7, y8, y9, y10, y11, y12, y13⟩
                  · obtain ⟨T, t1, t2, t3⟩ := M_law120B (lm := lm) (bl := B + nb) (bu := B0 + 130) (c := z) (u := u) (by omega) (pB_fr hBd (Q684 11 (by decide)) (Q684 13 (by decide)) (Q684 14 (by decide))) (b := B + nb + 1) gu_eq (by omega) (by omega) (nI k) (nI B) (nI (fi + 1))
                    exact ⟨T, (((((hst.trans hst2).trans hst3).trans hst4).trans hst5).trans hst6).trans t1, LF.lg (hF.tr (LF.mo (fQ6.tr t2) (by omega))), Or.inl t3⟩
                  · -- else
                    obtain ⟨J7, z1, z2, z3⟩ := M_must (fQ6.tk hk) hc y2 (by unfold pO; rw [Q684 11 (by decide), Q684 13 (by decide)]; exact y4) (gE_w (by omega)) (k := 138) rfl y13 (c := 30) rfl
                    have fJ7 : LF (B + nb) (B0 + 130) z u im J7 := fQ6.tr (Fo.lf z2)
                    have J735 : J7 84 35 = nI (B + nb + 1) := by
                      rw [z2.2 35 (by decide)]
                      show gm_up _ 84 35 _ 84 35 = _
                      rw [gu_eq]
                    have hst7 : gm_den 193 120 [.ref 84, .int (nI k), .int (nI B), .int (nI (fi + 1))] [] 128 gm_RF Q6 lm = gm_den 193 12 [.ref 84, .int (nI k), .int (nI B), .int (nI (fi + 1))] [] 128 gm_RF J7 lm := by
                      simp (decide := true) only [QX12_tellLaw, z1, gm_cont_v]
                    rcases z3 with ⟨k138, f138, o7, o8⟩ | hBd
                    · have hgn4 : gst K g0 (a + (x4 + 1)) = (GS.mk 3 (gst K g0 (a + x4)).nm (gst K g0 (a + x4)).it 0 (gst K g0 (a + x4)).op (gst K g0 (a + x4)).fi (gst K g0 (a + x4)).tm) := by
                        show gn (gst K g0 (a + x4)) (K (a + x4)) = _
                        unfold gn; rw [if_neg (by omega), if_neg (by omega), if_neg (by omega), if_neg (by omega), y9, cond_false, if_neg (by omega), if_neg (by omega), if_neg (by omega), if_pos y7]
                      have arl4 := arE_rel 1 (lwR K V a x4).wn (lwR K V a x4)
                      change arE (rel 1 (lwR K V a x4)) (lwR K V a x4) at arl4
                      have fi4 : (gst K g0 (a + (x4 + 1))).fi = fi + 1 := by rw [hgn4, GS_fi, y8, hgn3, GS_fi, u8, hgn2, GS_fi, p8, hgn1, GS_fi, hfi]
                      -- all that the arrays hold
                      obtain ⟨a1, a2, a3, a4, a5, a6⟩ := p11
                      obtain ⟨b1, b2, b3, b4, b5, b6⟩ := u11
                      obtain ⟨d1, d2, d3, d4, d5, d6⟩ := y11
                      obtain ⟨ab1, ab2, ab3, ab4, ab5, ab6⟩ := arl
                      obtain ⟨bb1, bb2, bb3, bb4, bb5, bb6⟩ := arl3
                      obtain ⟨dd1, dd2, dd3, dd4, dd5, dd6⟩ := arl4
                      have N1 : (lwR K V a (x + 1)).nb = nb := by rw [eL1]; rfl
                      have N2 : (lwR K V a (x2 + 1)).nb = nb := by rw [eL2]; show (rel 1 (lwR K V a x2)).nb = nb; rw [a1, N1]
                      have N2' : (lwR K V a x2).nb = nb := by rw [← ab1, a1, N1]
                      have N3 : (lwR K V a (x3 + 1)).nb = nb := by rw [eL3]; show (rel 1 (lwR K V a x3)).nb = nb; rw [b1, N2]
                      have N3' : (lwR K V a x3).nb = nb := by rw [← bb1, b1, N2]
                      have N4' : (lwR K V a x4).nb = nb := by rw [← dd1, d1, N3]
                      have eL4 : lwR K V a (x4 + 1) = (LW.mk (rel 1 (lwR K V a x4)).W (rel 1 (lwR K V a x4)).wn (rel 1 (lwR K V a x4)).C (rel 1 (lwR K V a x4)).cn (udN (udN (rel 1 (lwR K V a x4)).S (rel 1 (lwR K V a x4)).sn (2, 0)) (lwR K V a x4).li (60, (rel 1 (lwR K V a x4)).sn + 1)) ((rel 1 (lwR K V a x4)).sn + 1) (rel 1 (lwR K V a x4)).li ((lwR K V a x4).nb + 1) (udN (lwR K V a x4).hs ((lwR K V a x4).nb + 1) 0) (rel 1 (lwR K V a x4)).t0 (rel 1 (lwR K V a x4)).t1 (udN (lwR K V a x4).t2 ((lwR K V a x4).nb + 1) (rel 1 (lwR K V a x4)).cn) (udN (lwR K V a x4).t3 (lwR K V a x4).nb (rel 1 (lwR K V a x4)).cn) (udN (lwR K V a x4).u ((lwR K V a x4).nb + 1) ((rel 1 (lwR K V a x4)).sn + 1)) (udN (lwR K V a x4).v ((lwR K V a x4).nb + 1) (rel 1 (lwR K V a x4)).cn)) := by
                        show lwT (lwR K V a x4) (K (a + x4)) (V (a + x4)) = _
                        rw [k138]; unfold lwT; simp (decide := true) only [if_true, if_false]; rfl
                      have R7 : ∀ q, q ≠ 84 → q ≠ 110 → J7 q = J6 q := fun q h1 h2 => by
                        rw [z2.1 q h1]
                        show gm_up (gm_up J6 110 _ _) 84 35 _ q = J6 q
                        rw [gu_row h1, gu_row h2]
                      have R6 : ∀ q, q ≠ 84 → q ≠ 109 → q < 111 → J6 q = J5 q := fun q h1 h2 h3 => by
                        rw [v2.1 q h1 (by omega) (by omega) (by omega)]
                        show gm_up J5 109 _ _ q = J5 q
                        rw [gu_row h2]
                      have R5 : ∀ q, q ≠ 84 → q ≠ 108 → q < 111 → J5 q = J3 q := fun q h1 h2 h3 => by
                        rw [n2.1 q h1, s2.1 q h1 (by omega) (by omega) (by omega)]
                        show gm_up J3 108 _ _ q = J3 q
                        rw [gu_row h2]
                      have R3 : ∀ q, q ≠ 84 → q < 111 → J3 q = Q1 q := fun q h1 h3 => by
                        rw [m2.1 q h1, j2.1 q h1 (by omega) (by omega) (by omega)]
                      have v106 : J7 106 (B + nb) = 1 := by
                        rw [R7 106 (by decide) (by decide), R6 106 (by decide) (by decide) (by decide), R5 106 (by decide) (by decide) (by decide), R3 106 (by decide) (by decide)]
                        show gm_up (gm_up G 106 _ _) 107 _ _ 106 _ = _
                        rw [gu_ne (by decide), gu_eq]
                      have v107 : J7 107 (B + nb) = nI (z + (lwR K V a x).cn) := by
                        rw [R7 107 (by decide) (by decide), R6 107 (by decide) (by decide) (by decide), R5 107 (by decide) (by decide) (by decide), R3 107 (by decide) (by decide)]
                        show gm_up (gm_up G 106 _ _) 107 _ _ 107 _ = _
                        rw [gu_eq]
                      have v108 : J7 108 (B + nb) = nI (z + (rel 1 (lwR K V a x2)).cn) := by
                        rw [R7 108 (by decide) (by decide), R6 108 (by decide) (by decide) (by decide), n2.1 108 (by decide), s2.1 108 (by decide) (by decide) (by decide) (by decide)]
                        show gm_up J3 108 _ _ 108 _ = _
                        rw [gu_eq]
                      have v109 : J7 109 (B + nb) = nI (z + (rel 1 (lwR K V a x3)).cn) := by
                        rw [R7 109 (by decide) (by decide), v2.1 109 (by decide) (by decide) (by decide) (by decide)]
                        show gm_up J5 109 _ _ 109 _ = _
                        rw [gu_eq]
                      have v110 : J7 110 (B + nb) = nI (z + (rel 1 (lwR K V a x4)).cn) := by
                        rw [z2.1 110 (by decide)]
                        show gm_up (gm_up J6 110 _ _) 84 35 _ 110 _ = _
                        rw [gu_ne (by decide), gu_eq]
                        exact y12.1
                      -- the arrays of the law that is being read
                      have A4h : (lwR K V a (x4 + 1)).hs = udN (lwR K V a x4).hs (nb + 1) 0 := by rw [eL4, N4']; rfl
                      have A40 : (lwR K V a (x4 + 1)).t0 = (rel 1 (lwR K V a x4)).t0 := by rw [eL4]; rfl
                      have A41 : (lwR K V a (x4 + 1)).t1 = (rel 1 (lwR K V a x4)).t1 := by rw [eL4]; rfl
                      have A42 : (lwR K V a (x4 + 1)).t2 = udN (lwR K V a x4).t2 (nb + 1) (rel 1 (lwR K V a x4)).cn := by rw [eL4, N4']; rfl
                      have A43 : (lwR K V a (x4 + 1)).t3 = udN (lwR K V a x4).t3 nb (rel 1 (lwR K V a x4)).cn := by rw [eL4, N4']; rfl
                      have A4n : (lwR K V a (x4 + 1)).nb = nb + 1 := by rw [eL4, N4']; rfl
                      have A3h : (lwR K V a (x3 + 1)).hs = (rel 1 (lwR K V a x3)).hs := by rw [eL3]; rfl
                      have A30 : (lwR K V a (x3 + 1)).t0 = (rel 1 (lwR K V a x3)).t0 := by rw [eL3]; rfl
                      have A31 : (lwR K V a (x3 + 1)).t1 = (rel 1 (lwR K V a x3)).t1 := by rw [eL3]; rfl
                      have A32 : (lwR K V a (x3 + 1)).t2 = udN (rel 1 (lwR K V a x3)).t2 nb (rel 1 (lwR K V a x3)).cn := by rw [eL3, N3']; rfl
                      have A33 : (lwR K V a (x3 + 1)).t3 = (rel 1 (lwR K V a x3)).t3 := by rw [eL3]; rfl
                      have A2h : (lwR K V a (x2 + 1)).hs = (rel 1 (lwR K V a x2)).hs := by rw [eL2]; rfl
                      have A20 : (lwR K V a (x2 + 1)).t0 = (rel 1 (lwR K V a x2)).t0 := by rw [eL2]; rfl
                      have A21 : (lwR K V a (x2 + 1)).t1 = udN (lwR K V a x2).t1 nb (rel 1 (lwR K V a x2)).cn := by rw [eL2, N2']; rfl
                      have A22 : (lwR K V a (x2 + 1)).t2 = (rel 1 (lwR K V a x2)).t2 := by rw [eL2]; rfl
                      have A23 : (lwR K V a (x2 + 1)).t3 = (rel 1 (lwR K V a x2)).t3 := by rw [eL2]; rfl
                      have A1h : (lwR K V a (x + 1)).hs = udN (lwR K V a x).hs nb 1 := by rw [eL1]; rfl
                      have A10 : (lwR K V a (x + 1)).t0 = udN (lwR K V a x).t0 nb (lwR K V a x).cn := by rw [eL1]; rfl
                      have A11 : (lwR K V a (x + 1)).t1 = (lwR K V a x).t1 := by rw [eL1]; rfl
                      have A12 : (lwR K V a (x + 1)).t2 = (lwR K V a x).t2 := by rw [eL1]; rfl
                      have A13 : (lwR K V a (x + 1)).t3 = (lwR K V a x).t3 := by rw [eL1]; rfl
                      have Fh : ∀ b, b ≤ nb → (lwR K V a (x4 + 1)).hs b = udN (lwR K V a x).hs nb 1 b := fun b hb => by
                        rw [A4h, show udN (lwR K V a x4).hs (nb + 1) 0 b = (lwR K V a x4).hs b from if_neg (by omega), ← dd2, d2, A3h, b2, A2h, a2, A1h]
                      have F0 : (lwR K V a (x4 + 1)).t0 = udN (lwR K V a x).t0 nb (lwR K V a x).cn := by
                        rw [A40, d3, A30, b3, A20, a3, A10]
                      have F1 : (lwR K V a (x4 + 1)).t1 = udN (lwR K V a x2).t1 nb (rel 1 (lwR K V a x2)).cn := by
                        rw [A41, d4, A31, b4, A21]
                      have F1' : (lwR K V a x2).t1 = (lwR K V a x).t1 := by rw [← ab4, a4, A11]
                      have F2 : ∀ b, b ≤ nb → (lwR K V a (x4 + 1)).t2 b = udN (rel 1 (lwR K V a x3)).t2 nb (rel 1 (lwR K V a x3)).cn b := fun b hb => by
                        rw [A42, show udN (lwR K V a x4).t2 (nb + 1) (rel 1 (lwR K V a x4)).cn b = (lwR K V a x4).t2 b from if_neg (by omega), ← dd5, d5, A32]
                      have F2' : (rel 1 (lwR K V a x3)).t2 = (lwR K V a x).t2 := by rw [b5, A22, a5, A12]
                      have F3' : (lwR K V a x4).t3 = (lwR K V a x).t3 := by rw [← dd6, d6, A33, b6, A23, a6, A13]
                      have hne4 : ∀ y, y < x4 + 1 → ¬ K (a + y) = 59 := fun y hy => by
                        by_cases e : y = x4
                        · rw [e]; omega
                        · exact y3 y (by omega)
                      have hcd4 : cdS J7 z (lwR K V a (x4 + 1)) := by
                        rw [eL4]
                        refine cdS_fr y12 (by rw [z2.2 41 (by decide), Q684 41 (by decide)]) (R7 111 (by decide) (by decide)) (R7 112 (by decide) (by decide)) rfl rfl rfl
                      obtain ⟨T, t1, t2, t3⟩ := ih (x4 + 1) (fi + 1) J7 (by omega) o7 hne4 (by rw [hgn4]; rfl) (by rw [hgn4]; rfl) (by rw [hgn4]; exact y6) fi4 o8 (fJ7.tk hk) hcd4 (by rw [z2.2 12 (by decide), Q684 12 (by decide)]; exact y10) (by rw [A4n, J735]; rfl) (fun b hb => by
                        rw [A4n] at hb
                        by_cases eb : b = nb
                        · subst eb
                          unfold brS
                          rw [Fh b (Nat.le_refl _), F0, F1, F2 b (Nat.le_refl _), A43, v106, v107, v108, v109, v110]
                          simp [udN]
                          rfl
                        · have hb' : b < nb := by omega
                          refine brS_cg (hbr b hb') (fun q h1 h2 => fJ7.2.2.1 q (B + b) h1 h2 (by omega)) ?_ ?_ ?_ ?_ ?_
                          · rw [Fh b (by omega)]; exact if_neg eb
                          · rw [F0]; exact if_neg eb
                          · rw [F1, show udN (lwR K V a x2).t1 nb (rel 1 (lwR K V a x2)).cn b = (lwR K V a x2).t1 b from if_neg eb, F1']
                          · rw [F2 b (by omega), show udN (rel 1 (lwR K V a x3)).t2 nb (rel 1 (lwR K V a x3)).cn b = (rel 1 (lwR K V a x3)).t2 b from if_neg eb, F2']
                          · rw [A43, show udN (lwR K V a x4).t3 nb (rel 1 (lwR K V a x4)).cn b = (lwR K V a x4).t3 b from if_neg eb, F3']) (hF.tr (LF.mo fJ7 (by omega)))
                      exact ⟨T, ((((((hst.trans hst2).trans hst3).trans hst4).trans hst5).trans hst6).trans hst7).trans t1, t2, t3⟩
                    · obtain ⟨T, t1, t2, t3⟩ := M_law12B (lm := lm) (bl := B + nb) (bu := B0 + 130) (c := z) (u := u) (by omega) hBd J735 (by omega) (by omega) (nI k) (nI B) (nI (fi + 1))
                      exact ⟨T, ((((((hst.trans hst2).trans hst3).trans hst4).trans hst5).trans hst6).trans hst7).trans t1, LF.lg (hF.tr (LF.mo (fJ7.tr t2) (by omega))), Or.inl t3⟩
                · obtain ⟨T, t1, t2, t3⟩ := M_law116B (lm := lm) (bl := B + nb) (bu := B0 + 130) (c := z) (u := u) (by omega) hBd J535 hb1' hb2 (nI k) (nI B) (nI (fi + 1))
                  exact ⟨T, ((((hst.trans hst2).trans hst3).trans hst4).trans hst5).trans t1, LF.lg (hF.tr (LF.mo (fJ5.tr t2) (by omega))), Or.inl t3⟩
            · obtain ⟨T, t1, t2, t3⟩ := M_law86B (lm := lm) (bl := B + nb) (bu := B0 + 130) (c := z) (u := u) (by omega) hBd J335 hb1' hb2 (nI k) (nI B) (nI (fi + 1))
              exact ⟨T, ((hst.trans hst2).trans hst3).trans t1, LF.lg (hF.tr (LF.mo (fJ3.tr t2) (by omega))), Or.inl t3⟩
        · obtain ⟨T, t1, t2, t3⟩ := M_law53B (lm := lm) (bl := B) (bu := B0 + 130) (c := z) (u := u) (by omega) hBd G35 hb1 hb2 (nI k) (nI B) (nI (fi + 1))
          exact ⟨T, hst.trans t1, LF.lg ((hF.tr (Fo.lf q2)).tr t2), Or.inl t3⟩
    · -- the last term
      rw [show (K (a + x) == 136) = false by simp [k136]] at hi
      have hsc := hl.2.1
      obtain ⟨ps, hsc, -⟩ := hsc
      rw [sc0] at hsc
      have hT2 : (lwR K V a x).hs (lwR K V a x).nb = 0 ∧ (lwR K V a x).t2 (lwR K V a x).nb = (lwR K V a x).v (lwR K V a x).nb := by
        rcases hsc with ⟨-, -, q1, q2, -⟩ | ⟨q, -⟩ | ⟨q, -⟩ | ⟨q, -⟩
        · exact ⟨q1, q2⟩
        · cases q
        · cases q
        · cases q
      generalize hN : (lwR K V a x).nb = nb at *
      let Q0 := gm_up im 106 (B + nb) 0
      have e35 : Q0 84 35 = nI (B + nb) := by show gm_up im 106 _ _ 84 35 = _; rw [gu_ne (by decide)]; exact h35
      have e41 : Q0 84 41 = nI (z + (lwR K V a x).cn) := by show gm_up im 106 _ _ 84 41 = _; rw [gu_ne (by decide)]; exact hcd.1
      let Q1 := gm_up Q0 109 (B + nb) (nI (z + (lwR K V a x).cn))
      have Q84 : ∀ j, Q1 84 j = im 84 j := fun j => by
        show gm_up (gm_up im 106 _ _) 109 _ _ 84 j = _
        rw [gu_ne (by decide), gu_ne (by decide)]
      have fQ1 : LF (B + nb) (B0 + 130) z u im Q1 := (LF.br im 0 (by decide) (by decide) (Nat.le_refl _) (by omega)).tr (LF.br _ _ (by decide) (by decide) (Nat.le_refl _) (by omega))
      obtain ⟨J2, j1, j2, j3⟩ := M_exm (c := z) hc hV2 g3 gs0 go (Nat.le_refl _) hza h840 (x := x) (im := Q1) (k := 59) (sc := 4) hok hne (by unfold pO; rw [Q84, Q84]; exact hp) (fQ1.tk hk) (cdS_fr hcd (Q84 41) (by
        show gm_up (gm_up im 106 _ _) 109 _ _ 111 = _
        rw [gu_row (by decide), gu_row (by decide)]) (by
        show gm_up (gm_up im 106 _ _) 109 _ _ 112 = _
        rw [gu_row (by decide), gu_row (by decide)]) rfl rfl rfl) (by rw [Q84]; exact h12) op0 w3 (fun _ => k136) rfl (by rw [if_pos sc0]) rfl
      have fJ2 : LF (B + nb) (B0 + 130) z u im J2 := fQ1.tr (Ck.lf j2)
      have J35 : J2 84 35 = nI (B + nb) := by rw [j2.2.1 35 (by decide), Q84]; exact h35
      let Q2 := gm_up (gm_up J2 110 (B + nb) (J2 84 41)) 84 35 (nI (B + nb + 1))
      have fQ2 : LF (B + nb) (B0 + 130) z u im Q2 := (fJ2.tr (LF.br J2 _ (by decide) (by decide) (Nat.le_refl _) (by omega))).tr (LF.f35 _ _)
      have Q284 : ∀ j, j ≠ 35 → Q2 84 j = J2 84 j := fun j hj => by
        show gm_up (gm_up J2 110 _ _) 84 35 _ 84 j = _
        rw [gu_nk hj, gu_ne (by decide)]
      have hterm : gm_den 194 0 [.ref 84] [] 128 gm_RF Q0 lm = some (none, 128, gm_RF, Q2, lm) := by
        have q13 : gm_up Q0 109 (B + nb) (nI (z + (lwR K V a x).cn)) 84 13 = 0 := by
          show Q1 84 13 = 0
          rw [Q84]; exact hp.2
        have q35 : gm_up J2 110 (B + nb) (J2 84 41) 84 35 = nI (B + nb) := by rw [gu_ne (by decide)]; exact J35
        simp (decide := true) only [QX12_term, e35, e41, c2, c3, if_true, if_false, q13, not_true_eq_false]
        refine (congrArg _ j1).trans ?_
        simp (decide := true) only [QX12_term, gm_cont_v, J35, c2, c3, if_true, q35, nI_a1]
        rfl
      have hst : gm_den 193 12 [.ref 84, .int (nI k), .int (nI B), .int (nI fi)] [] 128 gm_RF im lm = gm_den 193 143 [.ref 84, .int (nI k), .int (nI B), .int (nI fi)] [] 128 gm_RF Q2 lm := by
        rw [LX12_tellLaw_12]
        simp (decide := true) only [QX12_tellLaw, hp.2, hi, gm_cont_i, b32_f, if_false, if_true, not_true_eq_false, h35, c2, c3]
        refine (congrArg _ hterm).trans ?_
        simp (decide := true) only [QX12_tellLaw, gm_cont_v]
      rcases j3 with hBd | ⟨x2, p1, p2, p3, p4, p5, p6, p7, p8, p9, p10, p11, p12, p13⟩
      · have hB2 : pB K P Q2 := pB_fr hBd (Q284 11 (by decide)) (Q284 13 (by decide)) (Q284 14 (by decide))
        have e := (pB_ne hB2).2
        refine ⟨Q2, ?_, LF.lg (hF.tr (LF.mo fQ2 (by omega))), Or.inl hB2⟩
        rw [hst]
        simp (decide := true) only [QX12_tellLaw, M_mustB hB2, gm_cont_v, e, if_false]
      · obtain ⟨J3, m1, m2, m3⟩ := M_must (fQ2.tk hk) hc p2 (by unfold pO; rw [Q284 11 (by decide), Q284 13 (by decide)]; exact p4) (gE_w (by omega)) (k := 59) rfl p13 (c := 4) rfl
        have fJ3 : LF (B + nb) (B0 + 130) z u im J3 := fQ2.tr (Fo.lf m2)
        rcases m3 with ⟨k59, f59, o3, o4⟩ | hBd
        · have e13 : J3 84 13 ≤ 0 := by rw [o4.2]; decide
          have J319 : J3 84 19 = nI s := by rw [fJ3.2.1 19 (by decide), hF.2.1 19 (by decide)]; exact h19
          have J335 : J3 84 35 = nI (B + nb + 1) := by
            rw [m2.2 35 (by decide)]
            show gm_up _ 84 35 _ 84 35 = _
            rw [gu_eq]
          have e19 : ∀ v, gm_up J3 104 (3 * s + k) v 84 19 = nI s := fun v => by rw [gu_ne (by decide)]; exact J319
          have e35' : ∀ v, gm_up J3 104 (3 * s + k) v 84 35 = nI (B + nb + 1) := fun v => by rw [gu_ne (by decide)]; exact J335
          have hlf := (law_end (V := V) (a := a) (x := x2) hK148 hV2 g3 gs0 go p2 p3 f59 k59).1
          obtain ⟨a1, a2, a3, a4, a5, a6⟩ := p11
          have arl := arE_rel 1 (lwR K V a x2).wn (lwR K V a x2)
          change arE (rel 1 (lwR K V a x2)) (lwR K V a x2) at arl
          obtain ⟨ab1, ab2, ab3, ab4, ab5, ab6⟩ := arl
          have N2 : (lwR K V a x2).nb = nb := by rw [← ab1, a1, hN]
          have eL : lwR K V a (x2 + 1) = (LW.mk (rel 1 (lwR K V a x2)).W (rel 1 (lwR K V a x2)).wn (rel 1 (lwR K V a x2)).C (rel 1 (lwR K V a x2)).cn (udN (rel 1 (lwR K V a x2)).S (rel 1 (lwR K V a x2)).sn (2, 0)) ((rel 1 (lwR K V a x2)).sn + 1) (rel 1 (lwR K V a x2)).li ((lwR K V a x2).nb + 1) (rel 1 (lwR K V a x2)).hs (rel 1 (lwR K V a x2)).t0 (rel 1 (lwR K V a x2)).t1 (rel 1 (lwR K V a x2)).t2 (udN (lwR K V a x2).t3 (lwR K V a x2).nb (rel 1 (lwR K V a x2)).cn) (rel 1 (lwR K V a x2)).u (rel 1 (lwR K V a x2)).v) := by
            show lwT (lwR K V a x2) (K (a + x2)) (V (a + x2)) = _
            rw [k59]; unfold lwT; simp (decide := true) only [if_true, if_false]; rfl
          have En : (lwR K V a (x2 + 1)).nb = nb + 1 := by rw [eL, N2]; rfl
          have Ec : (lwR K V a (x2 + 1)).cn = (rel 1 (lwR K V a x2)).cn := by rw [eL]; rfl
          have EC : (lwR K V a (x2 + 1)).C = (rel 1 (lwR K V a x2)).C := by rw [eL]; rfl
          have Eh : (lwR K V a (x2 + 1)).hs = (lwR K V a x).hs := by rw [eL, ← a2]; rfl
          have E0 : (lwR K V a (x2 + 1)).t0 = (lwR K V a x).t0 := by rw [eL, ← a3]; rfl
          have E1 : (lwR K V a (x2 + 1)).t1 = (lwR K V a x).t1 := by rw [eL, ← a4]; rfl
          have E2 : (lwR K V a (x2 + 1)).t2 = (lwR K V a x).t2 := by rw [eL, ← a5]; rfl
          have E3 : (lwR K V a (x2 + 1)).t3 = udN (lwR K V a x).t3 nb (rel 1 (lwR K V a x2)).cn := by rw [eL, N2, ← a6, ab6]; rfl
          let Z := gm_up (gm_up J3 104 (3 * s + k) (nI B)) 105 (3 * s + k) (nI (B + nb + 1))
          have Z84 : ∀ j, Z 84 j = J3 84 j := fun j => by
            show gm_up (gm_up J3 104 _ _) 105 _ _ 84 j = _
            rw [gu_ne (by decide), gu_ne (by decide)]
          have Zr : ∀ q, q ≠ 104 → q ≠ 105 → Z q = J3 q := fun q h1 h2 => by
            show gm_up (gm_up J3 104 _ _) 105 _ _ q = _
            rw [gu_row h2, gu_row h1]
          have gZ : LG B (B0 + 130) z u (3 * s + k) J3 Z := ⟨fun q h1 h2 => Zr q (by omega) (by omega), fun j _ => Z84 j, fun q y h1 h2 => by
            show gm_up (gm_up J3 104 _ _) 105 _ _ q y = _
            rcases h1 with rfl | rfl
            · rw [gu_ne (by decide), gu_nk h2]
            · rw [gu_nk h2, gu_ne (by decide)], fun q y h1 h2 _ => by rw [Zr q (by omega) (by omega)], fun q y h1 _ => by rw [Zr q (by omega) (by omega)]⟩
          have Rz : ∀ q, q ≠ 84 → q ≠ 110 → q ≠ 104 → q ≠ 105 → Z q = J2 q := fun q h1 h2 h3 h4 => by
            rw [Zr q h3 h4, m2.1 q h1]
            show gm_up (gm_up J2 110 _ _) 84 35 _ q = J2 q
            rw [gu_row h1, gu_row h2]
          have v106 : Z 106 (B + nb) = 0 := by
            rw [Rz 106 (by decide) (by decide) (by decide) (by decide), j2.1 106 (by decide) (by decide) (by decide) (by decide)]
            show gm_up (gm_up im 106 _ _) 109 _ _ 106 _ = _
            rw [gu_ne (by decide), gu_eq]
          have v109 : Z 109 (B + nb) = nI (z + (lwR K V a x).cn) := by
            rw [Rz 109 (by decide) (by decide) (by decide) (by decide), j2.1 109 (by decide) (by decide) (by decide) (by decide)]
            show gm_up (gm_up im 106 _ _) 109 _ _ 109 _ = _
            rw [gu_eq]
          have v110 : Z 110 (B + nb) = nI (z + (rel 1 (lwR K V a x2)).cn) := by
            rw [Zr 110 (by decide) (by decide), m2.1 110 (by decide)]
            show gm_up (gm_up J2 110 _ _) 84 35 _ 110 _ = _
            rw [gu_ne (by decide), gu_eq]
            exact p12.1
          have Zfr : LG B (B0 + 130) z u (3 * s + k) im0 Z := (LF.lg (hF.tr (LF.mo fJ3 (by omega)))).tr gZ
          refine ⟨Z, ?_, Zfr, Or.inr ⟨x2, o3, k59, p3, ?_, ?_, ?_, ?_, hlf, ⟨fun b hb => ?_, fun y hy => ?_⟩, ?_, ?_⟩⟩
          · rw [hst]
            simp (decide := true) only [QX12_tellLaw, m1, gm_cont_v, e13, if_true, J319, ix6s s k hs hk3, e19, e35', J335]
            rfl
          · unfold pO; rw [Z84, Z84]; exact o4
          · rw [Z84, m2.2 12 (by decide), Q284 12 (by decide)]; exact p10
          · rw [Z84, En]; exact J335
          · rw [Z84, Ec, m2.2 41 (by decide), Q284 41 (by decide)]; exact p12.1
          · rw [En] at hb
            by_cases eb : b = nb
            · subst eb
              rw [Eh, E0, E1, E2, E3, v106, v109, v110, hT2.1, hT2.2, hcv]
              refine ⟨rfl, fun h => (by cases h), rfl, ?_⟩
              show _ = nI (z + udN (lwR K V a x).t3 b (rel 1 (lwR K V a x2)).cn b)
              unfold udN
              rw [if_pos rfl]
            · have hb' : b < nb := by omega
              have := hbr b hb'
              unfold brS at this
              have r : ∀ q, 106 ≤ q → q ≤ 110 → Z q (B + b) = im q (B + b) := fun q h1 h2 => by
                rw [Zr q (by omega) (by omega)]
                exact fJ3.2.2.1 q (B + b) h1 h2 (by omega)
              rw [Eh, E0, E1, E2, E3, r 106 (by decide) (by decide), r 107 (by decide) (by decide), r 108 (by decide) (by decide), r 109 (by decide) (by decide), r 110 (by decide) (by decide), show udN (lwR K V a x).t3 nb (rel 1 (lwR K V a x2)).cn b = (lwR K V a x).t3 b from if_neg eb]
              exact this
          · rw [Ec] at hy
            rw [EC, Rz 111 (by decide) (by decide) (by decide) (by decide), Rz 112 (by decide) (by decide) (by decide) (by decide)]
            exact p12.2.1 y hy
          · show gm_up (gm_up J3 104 _ _) 105 _ _ 104 _ = _
            rw [gu_ne (by decide), gu_eq]
          · show gm_up (gm_up J3 104 _ _) 105 _ _ 105 _ = _
            rw [gu_eq, En]; rfl
        · have e := (pB_ne hBd).2
          refine ⟨J3, ?_, LF.lg (hF.tr (LF.mo fJ3 (by omega))), Or.inl hBd⟩
          rw [hst]
          simp (decide := true) only [QX12_tellLaw, m1, gm_cont_v, e, if_false]
end
