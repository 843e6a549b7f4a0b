/-! the reference reads an expression: its loops -/
section
variable {K V P W : Nat → Nat} {M : Nat}
def exS (K V P W : Nat → Nat) (M a z : Nat) (lm : gm_L) (im : gm_I) (x : Nat) : Prop := okT K g0 (a + x) ∧ (∀ y, y < x → ¬ K (a + y) = 59) ∧ pO im (a + x) ∧ mTks im lm K V P W (M + 1) ∧ mCd im z (lwR K V a x) ∧ im 84 12 = nI (gst K g0 (a + x)).op
def arE (L A : LW) : Prop := L.nb = A.nb ∧ L.hs = A.hs ∧ L.t0 = A.t0 ∧ L.t1 = A.t1 ∧ L.t2 = A.t2 ∧ L.t3 = A.t3
theorem arE.rf (L : LW) : arE L L := ⟨rfl, rfl, rfl, rfl, rfl, rfl⟩
theorem arE.tr {A B C : LW} (h : arE A B) (k : arE B C) : arE A C := ⟨h.1.trans k.1, h.2.1.trans k.2.1, h.2.2.1.trans k.2.2.1, h.2.2.2.1.trans k.2.2.2.1, h.2.2.2.2.1.trans k.2.2.2.2.1, h.2.2.2.2.2.trans k.2.2.2.2.2⟩
theorem arE_rel (r : Nat) : ∀ (f : Nat) (L : LW), arE (relF r f L) L := by
  intro f
  induction f with
  | zero => intro L; exact arE.rf L
  | succ f ih =>
    intro L
    simp only [relF]
    split
    · exact (ih (popW L)).tr ⟨rfl, rfl, rfl, rfl, rfl, rfl⟩
    · exact arE.rf L
def exR (K V P W : Nat → Nat) (M a z : Nat) (lm : gm_L) (x0 sc fi : Nat) (im' : gm_I) (A : LW) : Prop := pB K P im' ∨ ∃ x', x0 ≤ x' ∧ okT K g0 (a + x') ∧ (∀ y, y < x' → ¬ K (a + y) = 59) ∧ pO im' (a + x') ∧ mTks im' lm K V P W (M + 1) ∧ (gst K g0 (a + x')).w = 4 ∧ (gst K g0 (a + x')).op = 0 ∧ gOpr (K (a + x')) = false ∧ mCd im' z (rel 1 (lwR K V a x')) ∧ im' 84 12 = 0 ∧ (gst K g0 (a + x')).sc = sc ∧ (gst K g0 (a + x')).fi = fi ∧ arE (lwR K V a x') A
theorem exR_mo {a z x0 x1 sc fi : Nat} {lm : gm_L} {im' : gm_I} {A A' : LW} (h : exR K V P W M a z lm x1 sc fi im' A) (hx : x0 ≤ x1) (hA : arE A A') : exR K V P W M a z lm x0 sc fi im' A' := by
  rcases h with h | ⟨x', h1, h2, h3, h4, h5, h6, h7, h8, h9, h10, h11, h12, h13⟩
  · exact Or.inl h
  · exact Or.inr ⟨x', by omega, h2, h3, h4, h5, h6, h7, h8, h9, h10, h11, h12, h13.tr hA⟩
theorem wn_20 {L : LW} {g : GS} {x : Nat} (h : liP L g x) : L.wn ≤ 20 := by
  obtain ⟨-, -, ⟨h1, h2, h3⟩, -⟩ := h
  have := stO_len h1
  rw [h2] at this
  by_cases e : L.wn = 0
  · omega
  · rw [if_neg e] at this
    have := rkC_le (L.W (L.wn - 1))
    omega
theorem Ck_tk {c u : Nat} {lm : gm_L} {a b : gm_I} (h : Ck c u a b) {N : Nat} (hk : mTks a lm K V P W N) : mTks b lm K V P W N := by
  unfold mTks mTk1
  rw [h.1 87 (by decide) (by decide) (by decide) (by decide), h.1 88 (by decide) (by decide) (by decide) (by decide), h.1 89 (by decide) (by decide) (by decide) (by decide)]
  exact hk
/-- it ends, when a fault was found -/
theorem M_ex145 {im : gm_I} {lm : gm_L} {z c u : Nat} {L : LW} (hB : pB K P im) (hC : mCd im z L) (hst : stO L.W L.wn) (hw : L.wn ≤ 60) (hcz : c ≤ z) (hz : z + L.cn + L.wn ≤ u) (h840 : u ≤ 840) (X2 : Int32) {o : Nat} (ho : im 84 12 = nI o) (ho7 : o ≤ 7) : ∃ im', gm_den 197 145 [.ref 84, .int 0, .int X2] [] 128 gm_RF im lm = some (none, 128, gm_RF, im', lm) ∧ Ck c u im im' ∧ pB K P im' := by
  obtain ⟨J, j1, j2, j3, j4⟩ := M_out (r := 1) (Or.inl rfl) (z := z) (c := c) (u := u) lm L.wn L im (Nat.le_refl _) hw hC hst hcz hz h840 .null rfl
  have z0 : nI (1 - 1) = 0 := rfl
  rw [z0] at j1
  refine ⟨J, ?_, j3, pB_fr hB (j4 11 (by decide)) (j4 13 (by decide)) (j4 14 (by decide))⟩
  by_cases h0 : o = 0
  · have e : im 84 12 ≤ 0 := by rw [ho, h0]; decide
    simp (decide := true) only [QX12_expression, M_isB hB, gm_cont_i, if_true, if_false, not_true_eq_false, e, j1, gm_cont_v]
  · have e : ¬ nI o ≤ 0 := nI_nle (by omega) (by omega)
    simp (decide := true) only [QX12_expression, M_isB hB, gm_cont_i, if_true, if_false, not_true_eq_false, ho, e, M_failB hB, j1, gm_cont_v]
theorem M_ex (hc : cxP K M) (hV2 : ∀ t, K t = 2 → V t ≤ 9999) {a z c u : Nat} (g3 : (gst K g0 a).w = 3) (gs0 : (gst K g0 a).sc = 0) (go : (gst K g0 a).op = 0) (hcz : c ≤ z) (hza : z + 410 ≤ u + a) (h840 : u ≤ 840) (lm : gm_L) : ∀ (w x : Nat) (im : gm_I), a + x + w = 401 → exS K V P W M a z lm im x →
    ((gst K g0 (a + x)).w = 3 → ((gst K g0 (a + x)).sc = 0 → ¬ K (a + x) = 136) → ∃ im', gm_den 197 23 [.ref 84, .int 0, .int 1] [] 128 gm_RF im lm = some (none, 128, gm_RF, im', lm) ∧ Ck c u im im' ∧ exR K V P W M a z lm (x + 1) (if (gst K g0 (a + x)).sc = 0 then 4 else (gst K g0 (a + x)).sc) (gst K g0 (a + x)).fi im' (lwR K V a x)) ∧
    ((gst K g0 (a + x)).w = 4 → ∃ im', gm_den 197 96 [.ref 84, .int 0, .int 1] [] 128 gm_RF im lm = some (none, 128, gm_RF, im', lm) ∧ Ck c u im im' ∧ exR K V P W M a z lm x (gst K g0 (a + x)).sc (gst K g0 (a + x)).fi im' (lwR K V a x)) := by
  have hK148 : ∀ t, K t < 148 := fun t => kOk_lt (hc.2.2.2 t)
  intro w
  induction w with
  | zero => intro x im hw hS; exact absurd hS.1.1 (by omega)
  | succ w ih =>
    intro x im hw hS
    obtain ⟨hok, hne, hp, hk, hC, h12⟩ := hS
    have h400 := hok.1
    obtain ⟨hl, -⟩ := law_go (V := V) hK148 hV2 g3 gs0 go x hok hne
    have hw20 := wn_20 hl
    have hl2 := hl
    obtain ⟨-, -, ⟨i41, i42, i43⟩, ⟨i5, -, -⟩, -, -, i10⟩ := hl2
    have hzb : z + (lwR K V a x).cn + (lwR K V a x).wn + 10 ≤ u := by omega
    have exR' : lwR K V a (x + 1) = lwT (lwR K V a x) (K (a + x)) (V (a + x)) := rfl
    have eG : gst K g0 (a + (x + 1)) = gn (gst K g0 (a + x)) (K (a + x)) := rfl
    have ho7 : (gst K g0 (a + x)).op ≤ 7 := by omega
    have hne1 : ¬ K (a + x) = 59 → ∀ y, y < x + 1 → ¬ K (a + y) = 59 := fun h y hy => by
      by_cases e : y = x
      · rw [e]; exact h
      · exact hne y (by omega)
    refine ⟨fun w3 n136 => ?_, fun w4 => ?_⟩
    · -- an operand
      have hgE : ¬ gE K g0 (a + x) := gE_w (by omega)
      have hi := M_isK hk hc hok hp (k := 40) rfl (c := 6) rfl
      by_cases k40 : K (a + x) = 40
      · rw [show (K (a + x) == 40) = true by simp [k40]] at hi
        have hg : gf (gst K g0 (a + x)) (K (a + x)) = if 6 ≤ (gst K g0 (a + x)).op then 2 else 0 := by
          unfold gf; rw [if_neg (by omega), if_neg (by omega), if_neg (by omega), if_pos w3, if_neg (by omega), if_pos k40]
        -- the bracket goes onto the pile
        have push : ∀ (J : gm_I) (o : Nat), J 84 12 = nI o → J 84 45 = nI (lwR K V a x).wn → gm_den 197 60 [.ref 84, .int 0, .int 1] [] 128 gm_RF J lm = gm_den 197 23 [.ref 84, .int 0, .int 1] [] 128 gm_RF (gm_up (gm_up J 113 (lwR K V a x).wn 6) 84 45 (nI ((lwR K V a x).wn + 1))) lm := by
          intro J o _ hJ
          have c2 : gm_in (nI (lwR K V a x).wn) 64 = true := gm_in_nI (by omega) (by decide)
          have c3 : (nI (lwR K V a x).wn).toNatClampNeg = (lwR K V a x).wn := nI_clamp (by omega)
          have e1 : gm_up J 113 (lwR K V a x).wn 6 84 45 = nI (lwR K V a x).wn := by rw [gu_ne (by decide)]; exact hJ
          simp (decide := true) only [QX12_expression, hJ, c2, c3, e1, if_true, nI_a1]
        have ckp : ∀ J : gm_I, Ck c u J (gm_up (gm_up J 113 (lwR K V a x).wn 6) 84 45 (nI ((lwR K V a x).wn + 1))) := fun J => ⟨fun q h1 _ _ h4 => by rw [gu_row h1, gu_row h4], fun j hj => by rw [gu_nk (fun e => hj (by rw [e]; decide)), gu_ne (by decide)], fun q y h1 _ => by rw [gu_ne (by omega), gu_ne (by omega)]⟩
        have ck12 : Ck c u im (gm_up im 84 12 (nI ((gst K g0 (a + x)).op + 1))) := ⟨fun q h1 _ _ _ => gu_row h1, fun j hj => gu_nk (fun e => hj (by rw [e]; decide)), fun q y h1 _ => gu_ne (by omega)⟩
        -- with a fault it ends
        have bad : ∀ J : gm_I, pB K P J → Ck c u im J → J 84 45 = nI (lwR K V a x).wn → (∃ o, J 84 12 = nI o) → ∃ im', gm_den 197 60 [.ref 84, .int 0, .int 1] [] 128 gm_RF J lm = some (none, 128, gm_RF, im', lm) ∧ Ck c u im im' ∧ exR K V P W M a z lm (x + 1) (if (gst K g0 (a + x)).sc = 0 then 4 else (gst K g0 (a + x)).sc) (gst K g0 (a + x)).fi im' (lwR K V a x) := by
          intro J hB hck hJ ⟨o, hJo⟩
          have hB2 : pB K P (gm_up (gm_up J 113 (lwR K V a x).wn 6) 84 45 (nI ((lwR K V a x).wn + 1))) := pB_fr hB (by rw [gu_nk (by decide), gu_ne (by decide)]) (by rw [gu_nk (by decide), gu_ne (by decide)]) (by rw [gu_nk (by decide), gu_ne (by decide)])
          refine ⟨_, ?_, hck.tr (ckp J), Or.inl hB2⟩
          have e := (pB_ne hB2).2
          rw [push J o hJo hJ, LX12_expression_23]
          simp (decide := true) only [QX12_expression, M_isB hB2, gm_cont_i, if_true, M_unitB hB2, gm_cont_v, e, if_false]
        by_cases h6 : 6 ≤ (gst K g0 (a + x)).op
        · have o6 : (gst K g0 (a + x)).op = 6 := by omega
          have e6 : im 84 12 = 6 := by rw [h12, o6]; rfl
          rw [if_pos h6] at hg
          obtain ⟨J, j1, j2, j3⟩ := M_failO hk hc hok hp (foT_bad hok hgE hg (by decide)) (by decide) (by decide)
          have z2 : nI 2 = 2 := rfl
          rw [z2] at j1
          have j12 : J 84 12 = 6 := by rw [j2.2 12 (by decide)]; exact e6
          have hB1 : pB K P (gm_up J 84 12 7) := pB_fr j3 (gu_nk (by decide)) (gu_nk (by decide)) (gu_nk (by decide))
          obtain ⟨G, q1, q2, q3⟩ := M_goesB (lm := lm) hB1
          have ckG : Ck c u im G := ((Fo.ck j2).tr ⟨fun q h1 _ _ _ => gu_row h1, fun j hj => gu_nk (fun e => hj (by rw [e]; decide)), fun q y h1 _ => gu_ne (by omega)⟩).tr (Fo.ck q2)
          obtain ⟨im', b1, b2, b3⟩ := bad G q3 ckG (by rw [q2.2 45 (by decide), gu_nk (by decide), j2.2 45 (by decide)]; exact hC.2.1) ⟨7, by rw [q2.2 12 (by decide), gu_eq]; rfl⟩
          refine ⟨im', ?_, b2, b3⟩
          rw [← b1, LX12_expression_23]
          have e67 : (6 : Int32) + 1 = 7 := rfl
          simp (decide := true) only [QX12_expression, hi, gm_cont_i, b32_t, if_false, if_true, e6, j1, gm_cont_v, j12, not_true_eq_false, e67, q1]
        · rw [if_neg h6] at hg
          have n6 : ¬ nI (gst K g0 (a + x)).op = 6 := fun h => by
            have := (nK_eq (c := 6) (by omega) (by decide)).mp h
            omega
          have hk1 : mTks (gm_up im 84 12 (nI ((gst K g0 (a + x)).op + 1))) lm K V P W (M + 1) := Ck_tk ck12 hk
          have hp1 : pO (gm_up im 84 12 (nI ((gst K g0 (a + x)).op + 1))) (a + x) := by unfold pO; rw [gu_nk (by decide), gu_nk (by decide)]; exact hp
          obtain ⟨G, q1, q2, q3⟩ := M_goes hk1 hc hok hp1 hgE hg
          have G45 : G 84 45 = nI (lwR K V a x).wn := by rw [q2.2 45 (by decide), gu_nk (by decide)]; exact hC.2.1
          have G12 : G 84 12 = nI ((gst K g0 (a + x)).op + 1) := by rw [q2.2 12 (by decide), gu_eq]
          have hstep : gm_den 197 23 [.ref 84, .int 0, .int 1] [] 128 gm_RF im lm = gm_den 197 60 [.ref 84, .int 0, .int 1] [] 128 gm_RF G lm := by
            rw [LX12_expression_23]
            simp (decide := true) only [QX12_expression, hi, gm_cont_i, b32_t, if_false, if_true, h12, n6, gm_cont_v, not_false_eq_true, nI_a1, q1]
          rcases q3 with ⟨o1, o2⟩ | hB
          · have hgn : gst K g0 (a + (x + 1)) = (GS.mk (gst K g0 (a + x)).w (gst K g0 (a + x)).nm (gst K g0 (a + x)).it (if (gst K g0 (a + x)).sc = 0 then 4 else (gst K g0 (a + x)).sc) ((gst K g0 (a + x)).op + 1) (gst K g0 (a + x)).fi (gst K g0 (a + x)).tm) := by
              rw [eG]; unfold gn; rw [if_neg (by omega), if_neg (by omega), if_neg (by omega), if_pos w3, if_neg (by omega), if_pos k40]
            have hL' : lwT (lwR K V a x) (K (a + x)) (V (a + x)) = psW (lwR K V a x) 40 := by rw [k40]; unfold lwT; simp (decide := true) only [if_true, if_false]
            have hck1 : Ck c u im (gm_up (gm_up G 113 (lwR K V a x).wn 6) 84 45 (nI ((lwR K V a x).wn + 1))) := (ck12.tr (Fo.ck q2)).tr (ckp G)
            have hS1 : exS K V P W M a z lm (gm_up (gm_up G 113 (lwR K V a x).wn 6) 84 45 (nI ((lwR K V a x).wn + 1))) (x + 1) := by
              refine ⟨o1, hne1 (by omega), ?_, Ck_tk hck1 hk, ?_, ?_⟩
              · unfold pO
                rw [gu_nk (by decide), gu_ne (by decide), gu_nk (by decide), gu_ne (by decide)]
                exact o2
              · rw [exR', hL']
                obtain ⟨l1, l2, l3, l4⟩ := hC
                refine ⟨?_, gu_eq, fun i hi2 => ?_, fun y hy => ?_⟩
                · rw [gu_nk (by decide), gu_ne (by decide), q2.2 41 (by decide), gu_nk (by decide)]; exact l1
                · show _ = nI (rK (udN (lwR K V a x).W (lwR K V a x).wn 40 i))
                  have hi3 : i < (lwR K V a x).wn + 1 := hi2
                  unfold udN
                  by_cases e : i = (lwR K V a x).wn
                  · rw [if_pos e, e, gu_ne (by decide), gu_eq]; rfl
                  · rw [if_neg e, gu_ne (by decide), gu_nk e, q2.1 113 (by decide), gu_ne (by decide)]; exact l3 i (by omega)
                · rw [gu_ne (by decide), gu_ne (by decide), gu_ne (by decide), gu_ne (by decide), q2.1 111 (by decide), q2.1 112 (by decide), gu_ne (by decide), gu_ne (by decide)]; exact l4 y hy
              · rw [gu_nk (by decide), gu_ne (by decide), G12, hgn]; rfl
            have hsc4 : ¬ (if (gst K g0 (a + x)).sc = 0 then 4 else (gst K g0 (a + x)).sc) = 0 := by
              by_cases e : (gst K g0 (a + x)).sc = 0
              · rw [if_pos e]; decide
              · rw [if_neg e]; exact e
            obtain ⟨im', i1, i2, i3⟩ := (ih (x + 1) _ (by omega) hS1).1 (by rw [hgn]; exact w3) (fun h => by rw [hgn] at h; exact absurd h hsc4)
            refine ⟨im', ?_, hck1.tr i2, ?_⟩
            · rw [hstep, push G _ G12 G45]; exact i1
            · rw [hgn, GS_sc, GS_fi, if_neg hsc4] at i3
              exact exR_mo i3 (by omega) (by rw [exR', hL']; exact ⟨rfl, rfl, rfl, rfl, rfl, rfl⟩)
          · obtain ⟨im', b1, b2, b3⟩ := bad G hB (ck12.tr (Fo.ck q2)) G45 ⟨_, G12⟩
            exact ⟨im', hstep.trans b1, b2, b3⟩
      · rw [show (K (a + x) == 40) = false by simp [k40]] at hi
        obtain ⟨J, j1, j2, j3, j4⟩ := M_unitO (c := c) (u := u) hk hc hok hp hC hcz (by omega) h840 w3 k40 n136
        have hst : gm_den 197 23 [.ref 84, .int 0, .int 1] [] 128 gm_RF im lm = gm_den 197 88 [.ref 84, .int 0, .int 1] [] 128 gm_RF J lm := by
          rw [LX12_expression_23]
          simp (decide := true) only [QX12_expression, hi, gm_cont_i, b32_f, if_true, j1, gm_cont_v]
        rcases j4 with ⟨hf, hkk, o1, o2, o3⟩ | hB
        · have k136 : ¬ K (a + x) = 136 := by omega
          have hgn : gst K g0 (a + (x + 1)) = (GS.mk 4 (gst K g0 (a + x)).nm (gst K g0 (a + x)).it (if (gst K g0 (a + x)).sc = 0 then 4 else (gst K g0 (a + x)).sc) (gst K g0 (a + x)).op (gst K g0 (a + x)).fi (gst K g0 (a + x)).tm) := by
            rw [eG]; unfold gn; rw [if_neg (by omega), if_neg (by omega), if_neg (by omega), if_pos w3, if_neg k136, if_neg k40]
          have hS1 : exS K V P W M a z lm J (x + 1) := ⟨o1, hne1 (by omega), o2, Ck_tk j2 hk, by rw [exR']; exact o3, by rw [j3, h12, hgn]; rfl⟩
          obtain ⟨im', i1, i2, i3⟩ := (ih (x + 1) J (by omega) hS1).2 (by rw [hgn]; rfl)
          refine ⟨im', ?_, j2.tr i2, ?_⟩
          · have e13 : J 84 13 ≤ 0 := by rw [o2.2]; decide
            rw [hst, ← i1]
            simp (decide := true) only [QX12_expression, e13, if_true]
          · rw [hgn, GS_sc, GS_fi] at i3
            refine exR_mo i3 (Nat.le_refl _) ?_
            rw [exR']
            unfold lwT
            rcases hkk with e | e
            · rw [if_pos e]; exact ⟨rfl, rfl, rfl, rfl, rfl, rfl⟩
            · rw [if_neg (by omega), if_pos e]; exact ⟨rfl, rfl, rfl, rfl, rfl, rfl⟩
        · have e := (pB_ne hB).2
          refine ⟨J, ?_, j2, Or.inl hB⟩
          rw [hst]
          simp (decide := true) only [QX12_expression, e, if_false]
    · -- an operator, or the end
      have hgE : ¬ gE K g0 (a + x) := gE_w (by omega)
      have sc0 : ¬ (gst K g0 (a + x)).sc = 0 := fun e => by have := (i10 e).1; omega
      have hi := M_isK hk hc hok hp (k := 41) rfl (c := 7) rfl
      have hg : gf (gst K g0 (a + x)) (K (a + x)) = cond (gOpr (K (a + x))) 0 (if 0 < (gst K g0 (a + x)).op then (if K (a + x) = 41 then 0 else 1) else if K (a + x) = gCls (gst K g0 (a + x)).sc then 0 else 1) := by
        unfold gf; rw [if_neg (by omega), if_neg (by omega), if_neg (by omega), if_neg (by omega)]
      have hgn : gst K g0 (a + (x + 1)) = cond (gOpr (K (a + x))) (GS.mk 3 (gst K g0 (a + x)).nm (gst K g0 (a + x)).it (gst K g0 (a + x)).sc (gst K g0 (a + x)).op (gst K g0 (a + x)).fi (gst K g0 (a + x)).tm) (if 0 < (gst K g0 (a + x)).op then (GS.mk (gst K g0 (a + x)).w (gst K g0 (a + x)).nm (gst K g0 (a + x)).it (gst K g0 (a + x)).sc ((gst K g0 (a + x)).op - 1) (gst K g0 (a + x)).fi (gst K g0 (a + x)).tm) else if (gst K g0 (a + x)).sc = 1 then (GS.mk 3 (gst K g0 (a + x)).nm (gst K g0 (a + x)).it 2 (gst K g0 (a + x)).op (gst K g0 (a + x)).fi (gst K g0 (a + x)).tm) else if (gst K g0 (a + x)).sc = 2 then (GS.mk 3 (gst K g0 (a + x)).nm (gst K g0 (a + x)).it 3 (gst K g0 (a + x)).op (gst K g0 (a + x)).fi (gst K g0 (a + x)).tm) else if (gst K g0 (a + x)).sc = 3 then (GS.mk 3 (gst K g0 (a + x)).nm (gst K g0 (a + x)).it 0 (gst K g0 (a + x)).op (gst K g0 (a + x)).fi (gst K g0 (a + x)).tm) else (GS.mk 0 (gst K g0 (a + x)).nm (gst K g0 (a + x)).it (gst K g0 (a + x)).sc (gst K g0 (a + x)).op (gst K g0 (a + x)).fi (gst K g0 (a + x)).tm)) := by
        rw [eG]; unfold gn; rw [if_neg (by omega), if_neg (by omega), if_neg (by omega), if_neg (by omega)]
      by_cases kcl : K (a + x) = 41 ∧ 0 < (gst K g0 (a + x)).op
      · obtain ⟨k41, hop⟩ := kcl
        have ho : gOpr (K (a + x)) = false := by rw [k41]; rfl
        rw [ho, cond_false, if_pos hop, if_pos k41] at hg
        rw [ho, cond_false, if_pos hop] at hgn
        rw [show (K (a + x) == 41) = true by simp [k41]] at hi
        have e0 : ¬ nI (gst K g0 (a + x)).op ≤ 0 := nI_nle hop (by omega)
        obtain ⟨J, j1, j2, j3, j4⟩ := M_out (r := 1) (Or.inl rfl) (z := z) (c := c) (u := u) lm (lwR K V a x).wn (lwR K V a x) im (Nat.le_refl _) (by omega) hC i41 hcz (by omega) h840 .null rfl
        have z0 : nI (1 - 1) = 0 := rfl
        rw [z0] at j1
        change mCd J z (rel 1 (lwR K V a x)) at j2
        have hps : ∃ ps, sgH (lwR K V a x).C ps (lwR K V a x).cn (nOp (lwR K V a x).W (lwR K V a x).wn + 1) := by
          obtain ⟨-, ⟨ps, -, q⟩, -⟩ := hl
          rw [w4] at q
          exact ⟨ps, q⟩
        obtain ⟨ps, hps⟩ := hps
        obtain ⟨r1, r2, r3, r4, r5, r6, r7, r8⟩ := rel_spec 1 (Nat.le_refl _) ps (lwR K V a x).wn (lwR K V a x) (Nat.le_refl _) i41 hps
        change (rel 1 (lwR K V a x)).wn ≤ _ at r2
        change (rel 1 (lwR K V a x)).wn + (rel 1 (lwR K V a x)).cn = _ at r3
        change stO (rel 1 (lwR K V a x)).W (rel 1 (lwR K V a x)).wn at r4
        change n40 (rel 1 (lwR K V a x)).W (rel 1 (lwR K V a x)).wn = _ at r6
        have hwr : 0 < (rel 1 (lwR K V a x)).wn := by
          apply Classical.byContradiction
          intro h
          have e : (rel 1 (lwR K V a x)).wn = 0 := by omega
          rw [e, i42] at r6
          have : n40 (rel 1 (lwR K V a x)).W 0 = 0 := rfl
          omega
        have hL' : lwT (lwR K V a x) (K (a + x)) (V (a + x)) = (LW.mk (rel 1 (lwR K V a x)).W ((rel 1 (lwR K V a x)).wn - 1) (rel 1 (lwR K V a x)).C (rel 1 (lwR K V a x)).cn (rel 1 (lwR K V a x)).S (rel 1 (lwR K V a x)).sn (rel 1 (lwR K V a x)).li (rel 1 (lwR K V a x)).nb (rel 1 (lwR K V a x)).hs (rel 1 (lwR K V a x)).t0 (rel 1 (lwR K V a x)).t1 (rel 1 (lwR K V a x)).t2 (rel 1 (lwR K V a x)).t3 (rel 1 (lwR K V a x)).u (rel 1 (lwR K V a x)).v) := by rw [k41]; unfold lwT; simp (decide := true) only [if_true, if_false]
        have e45 : J 84 45 - 1 = nI ((rel 1 (lwR K V a x)).wn - 1) := by rw [j2.2.1, nI_m1 hwr]
        have e12 : gm_up J 84 45 (nI ((rel 1 (lwR K V a x)).wn - 1)) 84 12 - 1 = nI ((gst K g0 (a + x)).op - 1) := by rw [gu_nk (by decide), j4 12 (by decide), h12, nI_m1 hop]
        let Q := gm_up (gm_up J 84 45 (nI ((rel 1 (lwR K V a x)).wn - 1))) 84 12 (nI ((gst K g0 (a + x)).op - 1))
        have ckQ : Ck c u im Q := j3.tr ⟨fun q h1 _ _ _ => (by show gm_up (gm_up J 84 45 _) 84 12 _ q = J q; rw [gu_row h1, gu_row h1]), fun j hj => (by show gm_up (gm_up J 84 45 _) 84 12 _ 84 j = J 84 j; rw [gu_nk (fun e => hj (by rw [e]; decide)), gu_nk (fun e => hj (by rw [e]; decide))]), fun q y h1 _ => (by show gm_up (gm_up J 84 45 _) 84 12 _ q y = J q y; rw [gu_ne (by omega), gu_ne (by omega)])⟩
        have hCQ : mCd Q z (lwR K V a (x + 1)) := by
          rw [exR', hL']
          obtain ⟨l1, l2, l3, l4⟩ := j2
          refine ⟨?_, ?_, fun i hi2 => ?_, fun y hy => ?_⟩
          · show gm_up (gm_up J 84 45 _) 84 12 _ 84 41 = _
            rw [gu_nk (by decide), gu_nk (by decide)]; exact l1
          · show gm_up (gm_up J 84 45 _) 84 12 _ 84 45 = _
            rw [gu_nk (by decide), gu_eq]; rfl
          · show gm_up (gm_up J 84 45 _) 84 12 _ 113 i = _
            rw [gu_ne (by decide), gu_ne (by decide)]
            exact l3 i (by have : i < (rel 1 (lwR K V a x)).wn - 1 := hi2; omega)
          · show gm_up (gm_up J 84 45 _) 84 12 _ 111 _ = _ ∧ gm_up (gm_up J 84 45 _) 84 12 _ 112 _ = _
            rw [gu_ne (by decide), gu_ne (by decide), gu_ne (by decide), gu_ne (by decide)]; exact l4 y hy
        have hpQ : pO Q (a + x) := by
          show gm_up (gm_up J 84 45 _) 84 12 _ 84 11 = _ ∧ gm_up (gm_up J 84 45 _) 84 12 _ 84 13 = _
          rw [gu_nk (by decide), gu_nk (by decide), gu_nk (by decide), gu_nk (by decide), j4 11 (by decide), j4 13 (by decide)]
          exact hp
        obtain ⟨G, q1, q2, q3⟩ := M_goes (Ck_tk ckQ hk) hc hok hpQ hgE hg
        have G12 : G 84 12 = nI ((gst K g0 (a + x)).op - 1) := by
          rw [q2.2 12 (by decide)]
          show gm_up (gm_up J 84 45 _) 84 12 _ 84 12 = _
          rw [gu_eq]
        have hCG : mCd G z (lwR K V a (x + 1)) := mCd_fr hCQ (q2.2 41 (by decide)) (q2.2 45 (by decide)) (q2.1 113 (by decide)) (q2.1 111 (by decide)) (q2.1 112 (by decide))
        have hstep : gm_den 197 96 [.ref 84, .int 0, .int 1] [] 128 gm_RF im lm = gm_den 197 96 [.ref 84, .int 0, .int 1] [] 128 gm_RF G lm := by
          rw [LX12_expression_96]
          simp (decide := true) only [QX12_expression, hi, gm_cont_i, b32_t, if_false, if_true, h12, e0, j1, gm_cont_v, e45, e12]
          refine (congrArg _ q1).trans ?_
          simp (decide := true) only [QX12_expression, gm_cont_v]
        rcases q3 with ⟨o1, o2⟩ | hB
        · have hS1 : exS K V P W M a z lm G (x + 1) := ⟨o1, hne1 (by omega), o2, Ck_tk (ckQ.tr (Fo.ck q2)) hk, hCG, by rw [G12, hgn]; rfl⟩
          obtain ⟨im', i1, i2, i3⟩ := (ih (x + 1) G (by omega) hS1).2 (by rw [hgn]; exact w4)
          refine ⟨im', hstep.trans i1, (ckQ.tr (Fo.ck q2)).tr i2, ?_⟩
          rw [hgn, GS_sc, GS_fi] at i3
          exact exR_mo i3 (by omega) (by rw [exR', hL']; exact arE.tr ⟨rfl, rfl, rfl, rfl, rfl, rfl⟩ (arE_rel 1 _ _))
        · obtain ⟨im', b1, b2, b3⟩ := M_ex145 (L := lwR K V a (x + 1)) (c := c) (u := u) hB hCG (by
            rw [exR', hL']
            show stO (rel 1 (lwR K V a x)).W ((rel 1 (lwR K V a x)).wn - 1)
            obtain ⟨m, hm⟩ : ∃ m, (rel 1 (lwR K V a x)).wn = m + 1 := ⟨(rel 1 (lwR K V a x)).wn - 1, by omega⟩
            rw [hm] at r4 ⊢
            exact r4.1) (by
            rw [exR', hL']
            show (rel 1 (lwR K V a x)).wn - 1 ≤ 60
            omega) hcz (by
            rw [exR', hL']
            show z + (rel 1 (lwR K V a x)).cn + ((rel 1 (lwR K V a x)).wn - 1) ≤ _
            omega) h840 1 G12 (by omega)
          refine ⟨im', ?_, (ckQ.tr (Fo.ck q2)).tr b2, Or.inl b3⟩
          rw [hstep, ← b1, LX12_expression_96]
          simp (decide := true) only [QX12_expression, M_isB hB, gm_cont_i, if_true]
      · -- no bracket that closes
        have h145 : gm_den 197 96 [.ref 84, .int 0, .int 1] [] 128 gm_RF im lm = gm_den 197 145 [.ref 84, .int 0, .int 1] [] 128 gm_RF im lm := by
          rw [LX12_expression_96]
          by_cases k41 : K (a + x) = 41
          · have e0 : im 84 12 ≤ 0 := by rw [h12, show (gst K g0 (a + x)).op = 0 by omega]; decide
            rw [show (K (a + x) == 41) = true by simp [k41]] at hi
            simp (decide := true) only [QX12_expression, hi, gm_cont_i, b32_t, if_false, if_true, e0]
          · rw [show (K (a + x) == 41) = false by simp [k41]] at hi
            simp (decide := true) only [QX12_expression, hi, gm_cont_i, b32_f, if_true]
        have h43 := M_isK hk hc hok hp (k := 43) rfl (c := 8) rfl
        have h45 := M_isK hk hc hok hp (k := 45) rfl (c := 9) rfl
        have h42 := M_isK hk hc hok hp (k := 42) rfl (c := 10) rfl
        have h47 := M_isK hk hc hok hp (k := 47) rfl (c := 15) rfl
        cases ho : gOpr (K (a + x)) with
        | true =>
          rw [ho, cond_true] at hg hgn
          have hop : K (a + x) = 43 ∨ K (a + x) = 45 ∨ K (a + x) = 42 ∨ K (a + x) = 47 := by
            unfold gOpr at ho
            simp only [Bool.or_eq_true, beq_iff_eq] at ho
            omega
          have hrk : rkC (K (a + x)) = 1 ∨ rkC (K (a + x)) = 2 := by rcases hop with e | e | e | e <;> (rw [e]; decide)
          have hL' : lwT (lwR K V a x) (K (a + x)) (V (a + x)) = psW (rel (rkC (K (a + x))) (lwR K V a x)) (K (a + x)) := by
            unfold lwT
            rcases hop with e | e | e | e <;> (rw [e]; simp (decide := true) only [if_true, if_false])
          obtain ⟨J, j1, j2, j3, j4⟩ := M_out hrk (z := z) (c := c) (u := u) lm (lwR K V a x).wn (lwR K V a x) im (Nat.le_refl _) (by omega) hC i41 hcz (by omega) h840 .null rfl
          change mCd J z (rel (rkC (K (a + x))) (lwR K V a x)) at j2
          have hwr : (rel (rkC (K (a + x))) (lwR K V a x)).wn ≤ (lwR K V a x).wn := by
            have : ∀ (f : Nat) (y : LW), (relF (rkC (K (a + x))) f y).wn ≤ y.wn := by
              intro f
              induction f with
              | zero => intro y; exact Nat.le_refl _
              | succ f ihf => intro y; simp only [relF]; split; exact Nat.le_trans (ihf (popW y)) (by show y.wn - 1 ≤ y.wn; omega); exact Nat.le_refl _
            exact this _ _
          have hM := hc.1
          have htM := okT_M hc hok
          have t1 := (hk (a + x) (by omega)).1
          have d2 : gm_in (nI (a + x)) 403 = true := gm_in_nI (by omega) (by decide)
          have d3 : (nI (a + x)).toNatClampNeg = a + x := nI_clamp (by omega)
          have c2 : gm_in (nI (rel (rkC (K (a + x))) (lwR K V a x)).wn) 64 = true := gm_in_nI (by omega) (by decide)
          have c3 : (nI (rel (rkC (K (a + x))) (lwR K V a x)).wn).toNatClampNeg = (rel (rkC (K (a + x))) (lwR K V a x)).wn := nI_clamp (by omega)
          have J11 : J 84 11 = nI (a + x) := by rw [j4 11 (by decide)]; exact hp.1
          have J87 : J 87 (a + x) = nI (rK (K (a + x))) := by rw [j3.1 87 (by decide) (by decide) (by decide) (by decide)]; exact t1
          have e45 : ∀ v, gm_up J 113 (rel (rkC (K (a + x))) (lwR K V a x)).wn v 84 45 = nI (rel (rkC (K (a + x))) (lwR K V a x)).wn := fun v => by rw [gu_ne (by decide)]; exact j2.2.1
          let Q := gm_up (gm_up J 113 (rel (rkC (K (a + x))) (lwR K V a x)).wn (nI (rK (K (a + x))))) 84 45 (nI ((rel (rkC (K (a + x))) (lwR K V a x)).wn + 1))
          have ckQ : Ck c u im Q := j3.tr ⟨fun q h1 _ _ h4 => (by show gm_up (gm_up J 113 _ _) 84 45 _ q = J q; rw [gu_row h1, gu_row h4]), fun j hj => (by show gm_up (gm_up J 113 _ _) 84 45 _ 84 j = J 84 j; rw [gu_nk (fun e => hj (by rw [e]; decide)), gu_ne (by decide)]), fun q y h1 _ => (by show gm_up (gm_up J 113 _ _) 84 45 _ q y = J q y; rw [gu_ne (by omega), gu_ne (by omega)])⟩
          have hpQ : pO Q (a + x) := by
            show gm_up (gm_up J 113 _ _) 84 45 _ 84 11 = _ ∧ gm_up (gm_up J 113 _ _) 84 45 _ 84 13 = _
            rw [gu_nk (by decide), gu_ne (by decide), gu_nk (by decide), gu_ne (by decide), j4 11 (by decide), j4 13 (by decide)]
            exact hp
          obtain ⟨G, q1, q2, q3⟩ := M_goes (Ck_tk ckQ hk) hc hok hpQ hgE hg
          have hCG : mCd G z (lwR K V a (x + 1)) := by
            rw [exR', hL']
            obtain ⟨l1, l2, l3, l4⟩ := j2
            refine ⟨?_, ?_, fun i hi2 => ?_, fun y hy => ?_⟩
            · rw [q2.2 41 (by decide)]
              show gm_up (gm_up J 113 _ _) 84 45 _ 84 41 = _
              rw [gu_nk (by decide), gu_ne (by decide)]; exact l1
            · rw [q2.2 45 (by decide)]
              show gm_up (gm_up J 113 _ _) 84 45 _ 84 45 = _
              rw [gu_eq]; rfl
            · rw [q2.1 113 (by decide)]
              show gm_up (gm_up J 113 _ _) 84 45 _ 113 i = nI (rK (udN (rel (rkC (K (a + x))) (lwR K V a x)).W (rel (rkC (K (a + x))) (lwR K V a x)).wn (K (a + x)) i))
              have hi3 : i < (rel (rkC (K (a + x))) (lwR K V a x)).wn + 1 := hi2
              unfold udN
              by_cases e : i = (rel (rkC (K (a + x))) (lwR K V a x)).wn
              · rw [if_pos e, e, gu_ne (by decide), gu_eq]
              · rw [if_neg e, gu_ne (by decide), gu_nk e]; exact l3 i (by omega)
            · rw [q2.1 111 (by decide), q2.1 112 (by decide)]
              show gm_up (gm_up J 113 _ _) 84 45 _ 111 _ = _ ∧ gm_up (gm_up J 113 _ _) 84 45 _ 112 _ = _
              rw [gu_ne (by decide), gu_ne (by decide), gu_ne (by decide), gu_ne (by decide)]; exact l4 y hy
          have G12 : G 84 12 = nI (gst K g0 (a + x)).op := by
            rw [q2.2 12 (by decide)]
            show gm_up (gm_up J 113 _ _) 84 45 _ 84 12 = _
            rw [gu_nk (by decide), gu_ne (by decide), j4 12 (by decide)]; exact h12
          have hstep : gm_den 197 145 [.ref 84, .int 0, .int 1] [] 128 gm_RF im lm = gm_den 197 12 [.ref 84, .int 0, .int 1] [] 128 gm_RF G lm := by
            rcases hop with e | e | e | e
            · rw [show (K (a + x) == 43) = true by simp [e]] at h43
              rw [show (K (a + x) == 42) = false by simp [e]] at h42
              rw [show (K (a + x) == 47) = false by simp [e]] at h47
              have j1' : gm_den 196 0 [.ref 84, .int 0, .null] [] 128 gm_RF im lm = some (none, 128, gm_RF, J, lm) := by rw [e] at j1; exact j1
              simp (decide := true) only [QX12_expression, h43, h42, h47, gm_cont_i, b32_t, b32_f, if_false, if_true, not_false_eq_true, not_true_eq_false, j1', gm_cont_v, J11, J87, d2, d3, j2.2.1, c2, c3, e45, nI_a1]
              refine (congrArg _ q1).trans ?_
              simp (decide := true) only [QX12_expression, gm_cont_v]
            · rw [show (K (a + x) == 43) = false by simp [e]] at h43
              rw [show (K (a + x) == 45) = true by simp [e]] at h45
              rw [show (K (a + x) == 42) = false by simp [e]] at h42
              rw [show (K (a + x) == 47) = false by simp [e]] at h47
              have j1' : gm_den 196 0 [.ref 84, .int 0, .null] [] 128 gm_RF im lm = some (none, 128, gm_RF, J, lm) := by rw [e] at j1; exact j1
              simp (decide := true) only [QX12_expression, h43, h45, h42, h47, gm_cont_i, b32_t, b32_f, if_false, if_true, not_false_eq_true, not_true_eq_false, j1', gm_cont_v, J11, J87, d2, d3, j2.2.1, c2, c3, e45, nI_a1]
              refine (congrArg _ q1).trans ?_
              simp (decide := true) only [QX12_expression, gm_cont_v]
            · rw [show (K (a + x) == 43) = false by simp [e]] at h43
              rw [show (K (a + x) == 45) = false by simp [e]] at h45
              rw [show (K (a + x) == 42) = true by simp [e]] at h42
              have j1' : gm_den 196 0 [.ref 84, .int 1, .null] [] 128 gm_RF im lm = some (none, 128, gm_RF, J, lm) := by rw [e] at j1; exact j1
              simp (decide := true) only [QX12_expression, h43, h45, h42, gm_cont_i, b32_t, b32_f, if_false, if_true, not_false_eq_true, not_true_eq_false, j1', gm_cont_v, J11, J87, d2, d3, j2.2.1, c2, c3, e45, nI_a1]
              refine (congrArg _ q1).trans ?_
              simp (decide := true) only [QX12_expression, gm_cont_v]
            · rw [show (K (a + x) == 43) = false by simp [e]] at h43
              rw [show (K (a + x) == 45) = false by simp [e]] at h45
              rw [show (K (a + x) == 42) = false by simp [e]] at h42
              rw [show (K (a + x) == 47) = true by simp [e]] at h47
              have j1' : gm_den 196 0 [.ref 84, .int 1, .null] [] 128 gm_RF im lm = some (none, 128, gm_RF, J, lm) := by rw [e] at j1; exact j1
              simp (decide := true) only [QX12_expression, h43, h45, h42, h47, gm_cont_i, b32_t, b32_f, if_false, if_true, not_false_eq_true, not_true_eq_false, j1', gm_cont_v, J11, J87, d2, d3, j2.2.1, c2, c3, e45, nI_a1]
              refine (congrArg _ q1).trans ?_
              simp (decide := true) only [QX12_expression, gm_cont_v]
          rcases q3 with ⟨o1, o2⟩ | hB
          · have hS1 : exS K V P W M a z lm G (x + 1) := ⟨o1, hne1 (by omega), o2, Ck_tk (ckQ.tr (Fo.ck q2)) hk, hCG, by rw [G12, hgn]; rfl⟩
            obtain ⟨im', i1, i2, i3⟩ := (ih (x + 1) G (by omega) hS1).1 (by rw [hgn]; rfl) (fun h => by rw [hgn] at h; exact absurd h sc0)
            refine ⟨im', ?_, (ckQ.tr (Fo.ck q2)).tr i2, ?_⟩
            · rw [h145, hstep, ← i1, LX12_expression_12]
              simp (decide := true) only [QX12_expression, o2.2, if_true, if_false]
            · rw [hgn, GS_sc, GS_fi, if_neg sc0] at i3
              exact exR_mo i3 (by omega) (by rw [exR', hL']; exact arE.tr ⟨rfl, rfl, rfl, rfl, rfl, rfl⟩ (arE_rel _ _ _))
          · have e13 := (pB_ne hB).1
            refine ⟨G, ?_, ckQ.tr (Fo.ck q2), Or.inl hB⟩
            rw [h145, hstep, LX12_expression_12]
            simp (decide := true) only [QX12_expression, e13, if_true, if_false, not_false_eq_true]
        | false =>
          rw [ho, cond_false] at hg
          have hno : ¬ K (a + x) = 43 ∧ ¬ K (a + x) = 45 ∧ ¬ K (a + x) = 42 ∧ ¬ K (a + x) = 47 := by
            unfold gOpr at ho
            simp only [Bool.or_eq_false_iff, beq_eq_false_iff_ne] at ho
            omega
          rw [show (K (a + x) == 43) = false by simp [hno.1]] at h43
          rw [show (K (a + x) == 45) = false by simp [hno.2.1]] at h45
          rw [show (K (a + x) == 42) = false by simp [hno.2.2.1]] at h42
          rw [show (K (a + x) == 47) = false by simp [hno.2.2.2]] at h47
          by_cases hop : 0 < (gst K g0 (a + x)).op
          · rw [if_pos hop, if_neg (fun e => kcl ⟨e, hop⟩)] at hg
            obtain ⟨J, j1, j2, j3⟩ := M_failO hk hc hok hp (foT_bad hok hgE hg (by decide)) (by decide) (by decide)
            have e0 : ¬ nI (gst K g0 (a + x)).op ≤ 0 := nI_nle hop (by omega)
            have z1 : nI 1 = 1 := rfl
            rw [z1] at j1
            obtain ⟨im', b1, b2, b3, b4⟩ := M_out (r := 1) (Or.inl rfl) (z := z) (c := c) (u := u) lm (lwR K V a x).wn (lwR K V a x) J (Nat.le_refl _) (by omega) (mCd_fr hC (j2.2 41 (by decide)) (j2.2 45 (by decide)) (j2.1 113 (by decide)) (j2.1 111 (by decide)) (j2.1 112 (by decide))) i41 hcz (by omega) h840 .null rfl
            have z0 : nI (1 - 1) = 0 := rfl
            rw [z0] at b1
            refine ⟨im', ?_, (Fo.ck j2).tr b3, Or.inl (pB_fr j3 (b4 11 (by decide)) (b4 13 (by decide)) (b4 14 (by decide)))⟩
            rw [h145]
            simp (decide := true) only [QX12_expression, h43, h45, h42, h47, gm_cont_i, b32_f, if_false, if_true, not_false_eq_true, not_true_eq_false, h12, e0, j1, gm_cont_v, b1]
          · have e0 : im 84 12 ≤ 0 := by rw [h12, show (gst K g0 (a + x)).op = 0 by omega]; decide
            obtain ⟨J, b1, b2, b3, b4⟩ := M_out (r := 1) (Or.inl rfl) (z := z) (c := c) (u := u) lm (lwR K V a x).wn (lwR K V a x) im (Nat.le_refl _) (by omega) hC i41 hcz (by omega) h840 .null rfl
            have z0 : nI (1 - 1) = 0 := rfl
            rw [z0] at b1
            refine ⟨J, ?_, b3, Or.inr ⟨x, Nat.le_refl _, hok, hne, ?_, Ck_tk b3 hk, w4, by omega, ho, b2, ?_, rfl, rfl, arE.rf _⟩⟩
            · rw [h145]
              simp (decide := true) only [QX12_expression, h43, h45, h42, h47, gm_cont_i, b32_f, if_false, if_true, not_false_eq_true, not_true_eq_false, e0, gm_cont_v, b1]
            · unfold pO
              rw [b4 11 (by decide), b4 13 (by decide)]; exact hp
            · rw [b4 12 (by decide), h12, show (gst K g0 (a + x)).op = 0 by omega]; rfl
/-- an expression, from its first token on -/
theorem M_exprO (hc : cxP K M) (hV2 : ∀ t, K t = 2 → V t ≤ 9999) {a z c u : Nat} (g3 : (gst K g0 a).w = 3) (gs0 : (gst K g0 a).sc = 0) (go : (gst K g0 a).op = 0) (hcz : c ≤ z) (hza : z + 410 ≤ u + a) (h840 : u ≤ 840) {lm : gm_L} {x : Nat} {im : gm_I} (hok : okT K g0 (a + x)) (hne : ∀ y, y < x → ¬ K (a + y) = 59) (hp : pO im (a + x)) (hk : mTks im lm K V P W (M + 1)) (h41 : im 84 41 = nI (z + (lwR K V a x).cn)) (hcd : ∀ y, y < (lwR K V a x).cn → im 111 (z + y) = nI ((lwR K V a x).C y).1 ∧ im 112 (z + y) = nI ((lwR K V a x).C y).2) (hwn : (lwR K V a x).wn = 0) (h12 : im 84 12 = 0) (hop : (gst K g0 (a + x)).op = 0) (w3 : (gst K g0 (a + x)).w = 3) (n136 : (gst K g0 (a + x)).sc = 0 → ¬ K (a + x) = 136) : ∃ im', gm_den 197 0 [.ref 84, .null, .null] [] 128 gm_RF im lm = some (none, 128, gm_RF, im', lm) ∧ Ck c u im im' ∧ exR K V P W M a z lm (x + 1) (if (gst K g0 (a + x)).sc = 0 then 4 else (gst K g0 (a + x)).sc) (gst K g0 (a + x)).fi im' (lwR K V a x) := by
  have h400 := hok.1
  have ck0 : Ck c u im (gm_up im 84 45 0) := ⟨fun q h1 _ _ _ => gu_row h1, fun j hj => gu_nk (fun e => hj (by rw [e]; decide)), fun q y h1 _ => gu_ne (by omega)⟩
  have hS : exS K V P W M a z lm (gm_up im 84 45 0) x := by
    refine ⟨hok, hne, ?_, Ck_tk ck0 hk, ⟨?_, ?_, fun i hi => ?_, fun y hy => ?_⟩, ?_⟩
    · unfold pO; rw [gu_nk (by decide), gu_nk (by decide)]; exact hp
    · rw [gu_nk (by decide)]; exact h41
    · rw [gu_eq, hwn]; rfl
    · rw [hwn] at hi; exact absurd hi (Nat.not_lt_zero _)
    · rw [gu_ne (by decide), gu_ne (by decide)]; exact hcd y hy
    · rw [gu_nk (by decide), h12, hop]; rfl
  obtain ⟨im', i1, i2, i3⟩ := (M_ex hc hV2 g3 gs0 go hcz hza h840 lm (401 - (a + x)) x _ (by omega) hS).1 w3 n136
  refine ⟨im', ?_, ck0.tr i2, i3⟩
  have e12 : gm_up im 84 45 0 84 12 = 0 := by rw [gu_nk (by decide)]; exact h12
  have e13 : gm_up im 84 45 0 84 13 = 0 := by rw [gu_nk (by decide)]; exact hp.2
  have n1 : Value.category .null = 1 := rfl
  have h0 : gm_den 197 0 [.ref 84, .null, .null] [] 128 gm_RF im lm = gm_den 197 12 [.ref 84, .int 0, .int 1] [] 128 gm_RF (gm_up im 84 45 0) lm := by
    simp (decide := true) only [QX12_expression, e12, n1, if_true]
  rw [h0, ← i1, LX12_expression_12]
  simp (decide := true) only [QX12_expression, e13, if_true, if_false]
theorem M_exprB {im : gm_I} {lm : gm_L} (hB : pB K P im) : ∃ im', gm_den 197 0 [.ref 84, .null, .null] [] 128 gm_RF im lm = some (none, 128, gm_RF, im', lm) ∧ (∀ c u, Ck c u im im') ∧ pB K P im' ∧ im' 84 41 = im 84 41 := by
  have hB1 : pB K P (gm_up im 84 45 0) := pB_fr hB (gu_nk (by decide)) (gu_nk (by decide)) (gu_nk (by decide))
  have e13 := (pB_ne hB1).1
  have n1 : Value.category .null = 1 := rfl
  refine ⟨gm_up im 84 45 0, ?_, fun c u => ⟨fun q h1 _ _ _ => gu_row h1, fun j hj => gu_nk (fun e => hj (by rw [e]; decide)), fun q y h1 _ => gu_ne (by omega)⟩, hB1, gu_nk (by decide)⟩
  have h0 : gm_den 197 0 [.ref 84, .null, .null] [] 128 gm_RF im lm = gm_den 197 12 [.ref 84, .int (gm_up im 84 45 0 84 12), .int 1] [] 128 gm_RF (gm_up im 84 45 0) lm := by
    simp (decide := true) only [QX12_expression, n1, if_true]
  rw [h0, LX12_expression_12]
  simp (decide := true) only [QX12_expression, e13, if_true, if_false, not_false_eq_true]
end
