/-! the reference's reading: its end -/
theorem M_rend1 {tb : Nat → Nat} {n M s : Nat} {im : gm_I} {lm : gm_L} (hx : tcx (tkk tb n) (tkv tb n) (tkP tb n) (tkn tb n) M) (hs : s < 2) (x1 : Int32) (h : pB (tkk tb n) (tkP tb n) im ∨ ∃ T, gE (tkk tb n) g0 T ∧ pI (tkk tb n) (tkv tb n) (tkP tb n) (tkn tb n) M s im lm T) : (∃ im' F pl T, gm_den 182 134 [.ref 84, .int x1] [] 128 gm_RF im lm = some (some (.int (nI F)), 128, gm_RF, im', lm) ∧ rdO tb n F pl T ∧ ¬ F = 0 ∧ im' 84 17 = pl ∧ Fo [15, 16, 17] im im') ∨ (∃ im' T, gm_den 182 134 [.ref 84, .int x1] [] 128 gm_RF im lm = gm_den 182 214 [.ref 84, .int x1] [] 128 gm_RF im' lm ∧ rdO tb n 0 (-1) T ∧ im' 84 17 = -1 ∧ Fo [15, 16, 17] im im' ∧ pI (tkk tb n) (tkv tb n) (tkP tb n) (tkn tb n) M s im lm T) := by
  rcases h with hB | ⟨T, hE, hI⟩
  · have hne := pB_ne hB
    obtain ⟨T, f, t, f1, f2, f3, f4, f5, -⟩ := hB
    refine Or.inl ⟨gm_up im 84 17 (nI (tkP tb n T)), f, nI (tkP tb n T), T, ?_, ⟨f, f1, Or.inl ⟨f2, rfl, rfl⟩⟩, f2, gu_eq, ⟨fun q hq => gu_row hq, fun j hj => gu_nk (fun e => hj (by rw [e]; decide))⟩⟩
    have e : ¬ nI f = 0 := fun e => f2 (by have := (nK_eq (k := f) (c := 0) (by omega) (by decide)).mp e; exact this)
    have e' : ¬ nI f ≤ 0 := nI_ge (a := 0) (by omega) (by omega)
    have u13 : gm_up im 84 17 (nI (tkP tb n T)) 84 13 = nI f := by rw [gu_nk (by decide)]; exact f4
    simp (decide := true) only [QX12_read, f4, e, e', if_false, not_false_eq_true, if_true, f5, u13]
  · have hI0 := hI
    obtain ⟨p1, p2, p3, p4, p5, p6, p7, p8, p9, p10, p11, p12⟩ := hI
    have hJ := gst_J (V := tkv tb n) p1
    have htM := okT_M hx.1 p1
    have hM := hx.1.1
    have hnm7 := hJ.2.2.2.2.2.2.2.2.2.1
    have hnj8 := hJ.2.2.2.2.2.2.2.2.2.2.2
    obtain ⟨sm1, sm2⟩ := fr_sm (V := tkv tb n) hx.2.1 p1 p2 T (Nat.le_refl _)
    obtain ⟨b1, b2⟩ := (frT_iff (K := tkk tb n) (V := tkv tb n) (c := 10000) (by decide) T).mp (by omega)
    have hfo : foT (tkk tb n) g0 T 0 := ⟨p1, Or.inl ⟨hE, rfl⟩⟩
    have hPT : tkP tb n T = n := by
      have h1 := tkk_end.mp hE.2
      have h2 := (tkF_n (tb := tb) (n := n) (k := T) (fun x hx => okT_K p1 hx)).2
      omega
    have h184 : gm_den 184 0 [.ref 84, .null] [] 128 gm_RF im lm = gm_den 184 2 [.ref 84, .int (nI 0)] [] 128 gm_RF im lm := by
      simp (decide := true) only [QX12_areSides]; rfl
    have hsides := M_sides_a lm hs p6 p11.1.1 p11.1.2.1 p11.1.2.2.2.1 hnm7 hnj8 sm1 (fun a => tkv tb n ((foA (tkk tb n) (tkv tb n) T).mi a + 2)) (fun a ha => ⟨(p11.2.1 a ha).1, by have := b1 a ha; show tkv tb n _ ≤ _; omega⟩) (fun j => tkv tb n ((foA (tkk tb n) (tkv tb n) T).ji j + 2)) (fun a ha => ⟨p11.2.2.2 a ha, by have := b2 a ha; show tkv tb n _ ≤ _; omega⟩) (foA (tkk tb n) (tkv tb n) T).nm 0 (by omega)
    rw [← h184] at hsides
    have h157 : ∃ im3 wk3 wt3, gm_den 182 134 [.ref 84, .int x1] [] 128 gm_RF im lm = gm_den 182 157 [.ref 84, .int x1] [] 128 gm_RF im3 lm ∧ Fo [15, 16] im im3 ∧ wR im3 (tkP tb n) wk3 wt3 ∧ wk3 ≤ 5 ∧ ((¬ (foA (tkk tb n) (tkv tb n) T).wk = 0 ∧ wk3 = (foA (tkk tb n) (tkv tb n) T).wk ∧ wt3 = (foA (tkk tb n) (tkv tb n) T).wt) ∨ ((foA (tkk tb n) (tkv tb n) T).wk = 0 ∧ (foA (tkk tb n) (tkv tb n) T).sd ≤ frT (tkk tb n) (tkv tb n) T ∧ wk3 = 5 ∧ wt3 = T) ∨ ((foA (tkk tb n) (tkv tb n) T).wk = 0 ∧ frT (tkk tb n) (tkv tb n) T < (foA (tkk tb n) (tkv tb n) T).sd ∧ wk3 = 0)) := by
      rcases hsides with ⟨d1, d2, d3⟩ | ⟨d1, d2⟩
      · refine ⟨im, (foA (tkk tb n) (tkv tb n) T).wk, (foA (tkk tb n) (tkv tb n) T).wt, ?_, Fo.rf _ _, p7, p8.1, ?_⟩
        · simp (decide := true) only [QX12_read, p3.2, not_true_eq_false, if_false, d1, gm_cont_i, if_true, not_false_eq_true]
        · by_cases hw : (foA (tkk tb n) (tkv tb n) T).wk = 0
          · exact Or.inr (Or.inr ⟨hw, (frT_iff (sd_pos T hw) T).mpr ⟨fun a ha => d2 a (Nat.zero_le _) ha, d3⟩, hw⟩)
          · exact Or.inl ⟨hw, rfl, rfl⟩
      · obtain ⟨J, j1, j2, j3, j4⟩ := M_wrong p4 p3.2 hM htM hx.2.2.1 p7 (k := 5) (by decide) (by decide) p8.1 (fun hw => ⟨by have := p8.2 hw; omega, Or.inl (hx.2.2.2.1 _ _ (p8.2 hw) htM)⟩)
        have z5 : nI 5 = 5 := rfl
        rw [z5] at j1
        have hst : gm_den 182 134 [.ref 84, .int x1] [] 128 gm_RF im lm = gm_den 182 157 [.ref 84, .int x1] [] 128 gm_RF J lm := by
          simp (decide := true) only [QX12_read, p3.2, p3.1, not_true_eq_false, if_false, d1, gm_cont_i, if_true, not_false_eq_true, j1, gm_cont_v]
        by_cases hw : (foA (tkk tb n) (tkv tb n) T).wk = 0
        · refine ⟨J, 5, T, hst, j2, j3 hw, Nat.le_refl _, Or.inr (Or.inl ⟨hw, ?_, rfl, rfl⟩)⟩
          apply Classical.byContradiction
          intro hc
          obtain ⟨a1, a2⟩ := (frT_iff (K := tkk tb n) (V := tkv tb n) (sd_pos T hw) T).mp (by omega)
          rcases d2 with ⟨x, x1, x2⟩ | ⟨x, x1, x2⟩
          · have := a1 x x1; omega
          · have := a2 x x1; omega
        · exact ⟨J, _, _, hst, j2, j4 hw, p8.1, Or.inl ⟨hw, rfl, rfl⟩⟩
    obtain ⟨im3, wk3, wt3, q1, q2, q3, q4, q5⟩ := h157
    have h13 : im3 84 13 = 0 := by rw [q2.2 13 (by decide)]; exact p3.2
    have fo3 : ∀ v, Fo [15, 16, 17] im (gm_up im3 84 17 v) := fun v => ⟨fun q hq => by rw [gu_row hq]; exact q2.1 q hq, fun j hj => by rw [gu_nk (fun e => hj (by rw [e]; decide))]; exact q2.2 j (fun e => hj (by simp at e ⊢; omega))⟩
    rw [q1]
    by_cases hw3 : wk3 = 0
    · refine Or.inr ⟨gm_up im3 84 17 (-1), T, ?_, ⟨0, hfo, Or.inr ⟨rfl, ?_⟩⟩, gu_eq, fo3 _, hI0⟩
      · have e15 : im3 84 15 = 0 := by rw [q3.1, hw3]; rfl
        have u13 : gm_up im3 84 17 (-1) 84 13 = 0 := by rw [gu_nk (by decide)]; exact h13
        have u15 : gm_up im3 84 17 (-1) 84 15 = 0 := by rw [gu_nk (by decide)]; exact e15
        simp (decide := true) only [QX12_read, h13, e15, u13, u15, if_true, if_false]
      · rcases q5 with ⟨a, b, c⟩ | ⟨a, b, c, -⟩ | ⟨a, b, c⟩
        · omega
        · omega
        · exact Or.inr (Or.inr ⟨a, b, rfl, rfl⟩)
    · refine Or.inl ⟨gm_up im3 84 17 (nI (tkP tb n wt3)), wk3, nI (tkP tb n wt3), T, ?_, ⟨0, hfo, Or.inr ⟨rfl, ?_⟩⟩, hw3, gu_eq, fo3 _⟩
      · have e15 := q3.1
        have e16 := q3.2 hw3
        have e' : ¬ nI wk3 ≤ 0 := nI_ge (a := 0) (by omega) (by omega)
        have u13 : gm_up im3 84 17 (nI (tkP tb n wt3)) 84 13 = 0 := by rw [gu_nk (by decide)]; exact h13
        have u15 : gm_up im3 84 17 (nI (tkP tb n wt3)) 84 15 = nI wk3 := by rw [gu_nk (by decide)]; exact e15
        simp (decide := true) only [QX12_read, h13, e15, e16, e', u13, u15, if_true, if_false]
      · rcases q5 with ⟨a, b, c⟩ | ⟨a, b, c, d⟩ | ⟨a, b, c⟩
        · exact Or.inl ⟨a, b, by rw [c]⟩
        · exact Or.inr (Or.inl ⟨a, b, c, by rw [d, hPT]⟩)
        · exact absurd c hw3
theorem M_held_loop (lm : gm_L) : ∀ (w i : Nat) (im : gm_I), i + w = 3 → (∀ x, x < i → im 126 x = 0) → ∃ im', gm_den 182 242 [.ref 84, .int (nI i)] [] 128 gm_RF im lm = some (some (.int (nI 0)), 128, gm_RF, im', lm) ∧ Fr [126] im im' ∧ ∀ x, x < 3 → im' 126 x = 0 := by
  intro w
  induction w with
  | zero =>
    intro i im hi h
    have e : i = 3 := by omega
    subst e
    refine ⟨im, ?_, Fr.rf _ _, h⟩
    have hle : (3 : Int32) ≤ nI 3 := by decide
    rw [LX12_read_242]
    simp (decide := true) only [QX12_read, hle, if_true]
    rfl
  | succ w ih =>
    intro i im hi h
    have hle : ¬ (3 : Int32) ≤ nI i := nI_ge (b := 3) (by omega) (by decide)
    have c1 : gm_in (nI i) 3 = true := gm_in_nI (by omega) (by decide)
    have c2 : (nI i).toNatClampNeg = i := nI_clamp (by omega)
    obtain ⟨im', q1, q2, q3⟩ := ih (i + 1) (gm_up im 126 i 0) (by omega) (fun x hx => by
      by_cases e : x = i
      · subst e; rw [gu_eq]
      · rw [gu_nk e]; exact h x (by omega))
    refine ⟨im', ?_, Fr.tr (Fr.up1 (by decide)) q2, q3⟩
    rw [← q1, LX12_read_242]
    simp (decide := true) only [QX12_read, hle, if_false, c1, c2, if_true, nI_a1]
theorem M_rend2 {s nm : Nat} {im : gm_I} (hs : s < 2) (hm7 : nm ≤ 7) (h19 : im 84 19 = nI s) (h94 : im 94 s = nI nm) (lm : gm_L) (x1 : Int32) : ∃ im', gm_den 182 214 [.ref 84, .int x1] [] 128 gm_RF im lm = some (some (.int (nI 0)), 128, gm_RF, im', lm) ∧ (∀ q, q ∉ [84, 116, 117, 126] → im' q = im q) ∧ (∀ j, j ∉ [18, 51, 54, 61] → im' 84 j = im 84 j) ∧ im' 84 18 = nI s ∧ im' 84 54 = 0 ∧ im' 84 61 = 0 ∧ (∀ x, x < 3 → im' 126 x = 0) ∧ (∀ b, b < 7 → begV im s nm (im' 116) b) ∧ (∀ m, m < 5 → im' 116 (70 + m) = -2) ∧ (∀ b, b < 7 → im' 116 (28 + b) = 0 ∧ im' 116 (35 + b) = 0 ∧ im' 116 (56 + b) = 0 ∧ im' 116 (63 + b) = 0) ∧ im' 116 75 = 0 ∧ im' 116 76 = 0 := by
  obtain ⟨im4, b1, b2, b3, b4, b5, b6, b7, b8, b9⟩ := M_begins (im := gm_up im 84 18 (nI s)) hs hm7 gu_eq (by rw [gu_ne (by decide)]; exact h94) lm
  have hk := M_keepsRow im4 lm
  obtain ⟨im', q1, q2, q3⟩ := M_held_loop lm 3 0 (gm_up (gm_up (mCp im4 116 117 80) 84 54 0) 84 61 0) (by omega) (fun x hx => absurd hx (Nat.not_lt_zero _))
  have r116 : ∀ j, j < 80 → im' 116 j = im4 117 j := fun j hj => by
    rw [q2 116 (by decide), gu_ne (by decide), gu_ne (by decide)]
    show (if 116 = 116 ∧ j < 80 then im4 117 j else im4 116 j) = im4 117 j
    rw [if_pos ⟨rfl, hj⟩]
  have rq : ∀ q, q ∉ [84, 116, 126] → im' q = im4 q := fun q hq => by
    have h1 : q ≠ 84 := fun e => hq (by rw [e]; decide)
    have h2 : q ≠ 116 := fun e => hq (by rw [e]; decide)
    have h3 : q ∉ [126] := fun e => hq (by simp at e; rw [e]; decide)
    rw [q2 q h3, gu_row h1, gu_row h1]
    funext j
    show (if q = 116 ∧ j < 80 then im4 117 j else im4 q j) = im4 q j
    rw [if_neg (fun e => h2 e.1)]
  have m84 : ∀ j, mCp im4 116 117 80 84 j = im4 84 j := fun j => by
    show (if 84 = 116 ∧ j < 80 then im4 117 j else im4 84 j) = im4 84 j
    rw [if_neg (fun e => absurd e.1 (by decide))]
  have r84 : ∀ j, j ≠ 54 → j ≠ 61 → im' 84 j = im4 84 j := fun j h1 h2 => by rw [q2 84 (by decide), gu_nk h2, gu_nk h1, m84]
  refine ⟨im', ?_, fun q hq => ?_, fun j hj => ?_, ?_, ?_, ?_, q3, fun b hb => ?_, fun m hm => ?_, fun b hb => ?_, ?_, ?_⟩
  · rw [← q1]
    have z0 : nI 0 = 0 := rfl
    rw [z0]
    simp (decide := true) only [QX12_read, h19, b1, gm_cont_v, hk]
  · rw [rq q (fun e => hq (by simp at e ⊢; omega)), b2 q (fun e => hq (by rw [e]; decide)) (fun e => hq (by rw [e]; decide)), gu_row (fun e => hq (by rw [e]; decide))]
  · rw [r84 j (fun e => hj (by rw [e]; decide)) (fun e => hj (by rw [e]; decide)), b3 j (fun e => hj (by rw [e]; decide)), gu_nk (fun e => hj (by rw [e]; decide))]
  · rw [r84 18 (by decide) (by decide), b3 18 (by decide), gu_eq]
  · rw [q2 84 (by decide), gu_nk (by decide), gu_eq]
  · rw [q2 84 (by decide), gu_eq]
  · have := b5 b hb
    unfold begV at this ⊢
    rw [r116 _ (by omega), r116 _ (by omega), r116 _ (by omega), r116 _ (by omega), r116 _ (by omega), r116 _ (by omega)]
    rw [gu_row (by decide), gu_row (by decide)] at this
    exact this
  · rw [r116 _ (by omega)]; exact b6 m hm
  · rw [r116 _ (by omega), r116 _ (by omega), r116 _ (by omega), r116 _ (by omega)]; exact b7 b hb
  · rw [r116 _ (by omega)]; exact b8
  · rw [r116 _ (by omega)]; exact b9
