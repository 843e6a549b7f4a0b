/-! the reference reads a law -/
def LF (bl bu c u : Nat) (im im' : gm_I) : Prop := (∀ q, q ≠ 84 → (q < 106 ∨ 113 < q) → im' q = im q) ∧ (∀ j, j ∉ [11, 12, 13, 14, 35, 41, 45] → im' 84 j = im 84 j) ∧ (∀ q y, 106 ≤ q → q ≤ 110 → (y < bl ∨ bu ≤ y) → im' q y = im q y) ∧ (∀ q y, q = 111 ∨ q = 112 → (y < c ∨ u ≤ y) → im' q y = im q y)
section
variable {bl bu c u : Nat}
theorem LF.rf (im : gm_I) : LF bl bu c u im im := ⟨fun _ _ _ => rfl, fun _ _ => rfl, fun _ _ _ _ _ => rfl, fun _ _ _ _ => rfl⟩
theorem LF.tr {x y z : gm_I} (h : LF bl bu c u x y) (k : LF bl bu c u y z) : LF bl bu c u x z := ⟨fun q a b => (k.1 q a b).trans (h.1 q a b), fun j hj => (k.2.1 j hj).trans (h.2.1 j hj), fun q y a b d => (k.2.2.1 q y a b d).trans (h.2.2.1 q y a b d), fun q y a b => (k.2.2.2 q y a b).trans (h.2.2.2 q y a b)⟩
theorem Ck.lf {x y : gm_I} (h : Ck c u x y) : LF bl bu c u x y := ⟨fun q a b => h.1 q a (by omega) (by omega) (by omega), fun j hj => h.2.1 j (fun e => hj (by simp at e ⊢; omega)), fun q y a b _ => by rw [h.1 q (by omega) (by omega) (by omega) (by omega)], fun q y a b => h.2.2 q y a b⟩
theorem Fo.lf {x y : gm_I} (h : Fo [11, 13, 14] x y) : LF bl bu c u x y := Ck.lf (Fo.ck h)
theorem LF.br (im : gm_I) {q k : Nat} (v : Int32) (h1 : 106 ≤ q) (h2 : q ≤ 110) (h3 : bl ≤ k) (h4 : k < bu) : LF bl bu c u im (gm_up im q k v) := ⟨fun r a b => gu_row (by omega), fun j hj => gu_ne (by omega), fun r y a b d => by
    by_cases e : r = q
    · subst e; exact gu_nk (by omega)
    · exact gu_ne e, fun r y a b => gu_ne (by omega)⟩
theorem LF.f35 (im : gm_I) (v : Int32) : LF bl bu c u im (gm_up im 84 35 v) := ⟨fun r a b => gu_row a, fun j hj => gu_nk (fun e => hj (by rw [e]; decide)), fun r y a b d => gu_ne (by omega), fun r y a b => gu_ne (by omega)⟩
theorem LF.tk {K V P W : Nat → Nat} {lm : gm_L} {x y : gm_I} (h : LF bl bu c u x y) {N : Nat} (hk : mTks x lm K V P W N) : mTks y lm K V P W N := by
  unfold mTks mTk1
  rw [h.1 87 (by decide) (by decide), h.1 88 (by decide) (by decide), h.1 89 (by decide) (by decide)]
  exact hk
end
section
variable {K V P W : Nat → Nat} {M : Nat} {bl bu c u : Nat}
theorem M_termB {im : gm_I} {lm : gm_L} (hbu : bu ≤ 260) (hB : pB K P im) {b : Nat} (h35 : im 84 35 = nI b) (h1 : bl ≤ b) (h2 : b < bu) : ∃ im', gm_den 194 0 [.ref 84] [] 128 gm_RF im lm = some (none, 128, gm_RF, im', lm) ∧ LF bl bu c u im im' ∧ pB K P im' ∧ im' 84 35 = nI (b + 1) := by
  have c2 : gm_in (nI b) 260 = true := gm_in_nI (by omega) (by decide)
  have c3 : (nI b).toNatClampNeg = b := nI_clamp (by omega)
  have e13 := (pB_ne hB).1
  have e1 : gm_up im 109 b (im 84 41) 84 13 = im 84 13 := gu_ne (by decide)
  have e2 : gm_up im 109 b (im 84 41) 84 35 = nI b := by rw [gu_ne (by decide)]; exact h35
  have e3 : gm_up im 109 b (im 84 41) 84 41 = im 84 41 := gu_ne (by decide)
  have e4 : gm_up (gm_up im 109 b (im 84 41)) 110 b (im 84 41) 84 35 = nI b := by rw [gu_ne (by decide)]; exact e2
  refine ⟨gm_up (gm_up (gm_up im 109 b (im 84 41)) 110 b (im 84 41)) 84 35 (nI (b + 1)), ?_, ((LF.br im _ (by decide) (by decide) h1 h2).tr (LF.br _ _ (by decide) (by decide) h1 h2)).tr (LF.f35 _ _), pB_fr hB ?_ ?_ ?_, gu_eq⟩
  · simp (decide := true) only [QX12_term, h35, c2, c3, if_true, e1, e13, not_false_eq_true, e2, e3, e4, nI_a1]
  · rw [gu_nk (by decide), gu_ne (by decide), gu_ne (by decide)]
  · rw [gu_nk (by decide), gu_ne (by decide), gu_ne (by decide)]
  · rw [gu_nk (by decide), gu_ne (by decide), gu_ne (by decide)]
/-- with a fault: from each place to the end -/
theorem M_law12B {im : gm_I} {lm : gm_L} (hbu : bu ≤ 260) (hB : pB K P im) {b : Nat} (h35 : im 84 35 = nI b) (h1 : bl ≤ b) (h2 : b < bu) (x1 x2 x3 : Int32) : ∃ im', gm_den 193 12 [.ref 84, .int x1, .int x2, .int x3] [] 128 gm_RF im lm = some (none, 128, gm_RF, im', lm) ∧ LF bl bu c u im im' ∧ pB K P im' := by
  have c2 : gm_in (nI b) 260 = true := gm_in_nI (by omega) (by decide)
  have c3 : (nI b).toNatClampNeg = b := nI_clamp (by omega)
  have e13 := (pB_ne hB).1
  have hB1 : pB K P (gm_up im 106 b 0) := pB_fr hB (gu_ne (by decide)) (gu_ne (by decide)) (gu_ne (by decide))
  obtain ⟨J, j1, j2, j3, j4⟩ := M_termB (lm := lm) (c := c) (u := u) hbu hB1 (by rw [gu_ne (by decide)]; exact h35) h1 h2
  have e := (pB_ne j3).2
  have o0 : (0 : Int32) = 0 ∨ (0 : Int32) = 1 := Or.inl rfl
  refine ⟨J, ?_, (LF.br im 0 (by decide) (by decide) h1 h2).tr j2, j3⟩
  rw [LX12_tellLaw_12]
  simp (decide := true) only [QX12_tellLaw, e13, not_false_eq_true, if_true, h35, c2, c3, j1, gm_cont_v, M_mustB j3, e, if_false]
theorem M_law120B {im : gm_I} {lm : gm_L} (hbu : bu ≤ 260) (hB : pB K P im) {b : Nat} (h35 : im 84 35 = nI b) (h1 : bl ≤ b) (h2 : b < bu) (x1 x2 x3 : Int32) : ∃ im', gm_den 193 120 [.ref 84, .int x1, .int x2, .int x3] [] 128 gm_RF im lm = some (none, 128, gm_RF, im', lm) ∧ LF bl bu c u im im' ∧ pB K P im' := by
  obtain ⟨J, j1, j2⟩ := M_law12B (lm := lm) (c := c) (u := u) hbu hB h35 h1 h2 x1 x2 x3
  refine ⟨J, ?_, j2⟩
  rw [← j1]
  simp (decide := true) only [QX12_tellLaw, M_mustB hB, gm_cont_v]
theorem M_law116B {im : gm_I} {lm : gm_L} (hbu : bu ≤ 260) (hB : pB K P im) {b : Nat} (h35 : im 84 35 = nI b) (h1 : bl ≤ b) (h2 : b + 1 < bu) (x1 x2 x3 : Int32) : ∃ im', gm_den 193 116 [.ref 84, .int x1, .int x2, .int x3] [] 128 gm_RF im lm = some (none, 128, gm_RF, im', lm) ∧ LF bl bu c u im im' ∧ pB K P im' := by
  obtain ⟨J, j1, j2, j3, j4⟩ := M_termB (lm := lm) (c := c) (u := u) hbu hB h35 h1 (by omega)
  obtain ⟨G, q1, q2, q3⟩ := M_law120B (bl := bl) (lm := lm) (c := c) (u := u) hbu j3 j4 (by omega) h2 x1 x2 x3
  refine ⟨G, ?_, j2.tr q2, q3⟩
  rw [← q1]
  simp (decide := true) only [QX12_tellLaw, j1, gm_cont_v]
theorem M_law110B {im : gm_I} {lm : gm_L} (hbu : bu ≤ 260) (hB : pB K P im) {b : Nat} (h35 : im 84 35 = nI b) (h1 : bl ≤ b) (h2 : b + 1 < bu) (x1 x2 x3 : Int32) : ∃ im', gm_den 193 110 [.ref 84, .int x1, .int x2, .int x3] [] 128 gm_RF im lm = some (none, 128, gm_RF, im', lm) ∧ LF bl bu c u im im' ∧ pB K P im' := by
  obtain ⟨G, q1, q2⟩ := M_law116B (lm := lm) (c := c) (u := u) hbu hB h35 h1 h2 x1 x2 x3
  refine ⟨G, ?_, q2⟩
  rw [← q1]
  simp (decide := true) only [QX12_tellLaw, M_mustB hB, gm_cont_v]
theorem M_law86B {im : gm_I} {lm : gm_L} (hbu : bu ≤ 260) (hB : pB K P im) {b : Nat} (h35 : im 84 35 = nI b) (h1 : bl ≤ b) (h2 : b + 1 < bu) (x1 x2 x3 : Int32) : ∃ im', gm_den 193 86 [.ref 84, .int x1, .int x2, .int x3] [] 128 gm_RF im lm = some (none, 128, gm_RF, im', lm) ∧ LF bl bu c u im im' ∧ pB K P im' := by
  have c2 : gm_in (nI b) 260 = true := gm_in_nI (by omega) (by decide)
  have c3 : (nI b).toNatClampNeg = b := nI_clamp (by omega)
  have hB1 : pB K P (gm_up im 108 b (im 84 41)) := pB_fr hB (gu_ne (by decide)) (gu_ne (by decide)) (gu_ne (by decide))
  have e13 := (pB_ne hB1).1
  obtain ⟨G, q1, q2, q3⟩ := M_law110B (lm := lm) (c := c) (u := u) hbu hB1 (by rw [gu_ne (by decide)]; exact h35) h1 h2 x1 x2 x3
  refine ⟨G, ?_, (LF.br im _ (by decide) (by decide) h1 (by omega)).tr q2, q3⟩
  rw [← q1]
  simp (decide := true) only [QX12_tellLaw, h35, c2, c3, if_true, e13, not_false_eq_true]
theorem M_law80B {im : gm_I} {lm : gm_L} (hbu : bu ≤ 260) (hB : pB K P im) {b : Nat} (h35 : im 84 35 = nI b) (h1 : bl ≤ b) (h2 : b + 1 < bu) (x1 x2 x3 : Int32) : ∃ im', gm_den 193 80 [.ref 84, .int x1, .int x2, .int x3] [] 128 gm_RF im lm = some (none, 128, gm_RF, im', lm) ∧ LF bl bu c u im im' ∧ pB K P im' := by
  obtain ⟨G, q1, q2⟩ := M_law86B (lm := lm) (c := c) (u := u) hbu hB h35 h1 h2 x1 x2 x3
  refine ⟨G, ?_, q2⟩
  rw [← q1]
  simp (decide := true) only [QX12_tellLaw, M_mustB hB, gm_cont_v]
theorem M_law53B {im : gm_I} {lm : gm_L} (hbu : bu ≤ 260) (hB : pB K P im) {b : Nat} (h35 : im 84 35 = nI b) (h1 : bl ≤ b) (h2 : b + 1 < bu) (x1 x2 x3 : Int32) : ∃ im', gm_den 193 53 [.ref 84, .int x1, .int x2, .int x3] [] 128 gm_RF im lm = some (none, 128, gm_RF, im', lm) ∧ LF bl bu c u im im' ∧ pB K P im' := by
  have c2 : gm_in (nI b) 260 = true := gm_in_nI (by omega) (by decide)
  have c3 : (nI b).toNatClampNeg = b := nI_clamp (by omega)
  have e1 : gm_up im 106 b 1 84 35 = nI b := by rw [gu_ne (by decide)]; exact h35
  have hB1 : pB K P (gm_up (gm_up im 106 b 1) 107 b (gm_up im 106 b 1 84 41)) := pB_fr hB (by rw [gu_ne (by decide), gu_ne (by decide)]) (by rw [gu_ne (by decide), gu_ne (by decide)]) (by rw [gu_ne (by decide), gu_ne (by decide)])
  obtain ⟨J, j1, j2, j3, j4⟩ := M_exprB (lm := lm) hB1
  obtain ⟨G, q1, q2, q3⟩ := M_law80B (lm := lm) (c := c) (u := u) hbu j3 (by rw [(j2 0 0).2.1 35 (by decide), gu_ne (by decide)]; exact e1) h1 h2 x1 x2 x3
  refine ⟨G, ?_, (((LF.br im 1 (by decide) (by decide) h1 (by omega)).tr (LF.br _ _ (by decide) (by decide) h1 (by omega))).tr (Ck.lf (j2 c u))).tr q2, q3⟩
  rw [← q1]
  simp (decide := true) only [QX12_tellLaw, h35, c2, c3, if_true, e1, j1, gm_cont_v]
end
/-! a law without a fault -/
section
variable {K V P W : Nat → Nat} {M : Nat}
/-- codes that stand -/
def cdS (im : gm_I) (z : Nat) (L : LW) : Prop := im 84 41 = nI (z + L.cn) ∧ (∀ y, y < L.cn → im 111 (z + y) = nI (L.C y).1 ∧ im 112 (z + y) = nI (L.C y).2) ∧ L.wn = 0
/-- a branch that stands, but for where its term ends -/
def brS (im : gm_I) (B z : Nat) (L : LW) (b : Nat) : Prop := im 106 (B + b) = nI (L.hs b) ∧ (L.hs b = 1 → im 107 (B + b) = nI (z + L.t0 b) ∧ im 108 (B + b) = nI (z + L.t1 b)) ∧ im 109 (B + b) = nI (z + L.t2 b) ∧ im 110 (B + b) = nI (z + L.t3 b)
/-- an expression and then the token that closes it -/
theorem M_exm (hc : cxP K M) (hV2 : ∀ t, K t = 2 → V t ≤ 9999) {a z c u : Nat} (g3 : (gst K g0 a).w = 3) (gs0 : (gst K g0 a).sc = 0) (go : (gst K g0 a).op = 0) (hcz : c ≤ z) (hza : z + 410 ≤ u + a) (h840 : u ≤ 840) {lm : gm_L} {x : Nat} {im : gm_I} (hok : okT K g0 (a + x)) (hne : ∀ y, y < x → ¬ K (a + y) = 59) (hp : pO im (a + x)) (hk : mTks im lm K V P W (M + 1)) (hcd : cdS im z (lwR K V a x)) (h12 : im 84 12 = 0) (hop : (gst K g0 (a + x)).op = 0) (w3 : (gst K g0 (a + x)).w = 3) (n136 : (gst K g0 (a + x)).sc = 0 → ¬ K (a + x) = 136) {k : Nat} (hkk : kOk k = true) {sc : Nat} (hsc : (if (gst K g0 (a + x)).sc = 0 then 4 else (gst K g0 (a + x)).sc) = sc) (hk2 : gCls sc = k) : ∃ J, gm_den 197 0 [.ref 84, .null, .null] [] 128 gm_RF im lm = some (none, 128, gm_RF, J, lm) ∧ Ck c u im J ∧ (pB K P J ∨ ∃ x', x < x' ∧ okT K g0 (a + x') ∧ (∀ y, y < x' → ¬ K (a + y) = 59) ∧ pO J (a + x') ∧ (gst K g0 (a + x')).w = 4 ∧ (gst K g0 (a + x')).op = 0 ∧ (gst K g0 (a + x')).sc = sc ∧ (gst K g0 (a + x')).fi = (gst K g0 (a + x)).fi ∧ gOpr (K (a + x')) = false ∧ J 84 12 = 0 ∧ arE (rel 1 (lwR K V a x')) (lwR K V a x) ∧ cdS J z (rel 1 (lwR K V a x')) ∧ gf (gst K g0 (a + x')) (K (a + x')) = if K (a + x') = k then 0 else 1) := by
  obtain ⟨J, j1, j2, j3⟩ := M_exprO (c := c) hc hV2 g3 gs0 go hcz hza h840 hok hne hp hk hcd.1 hcd.2.1 hcd.2.2 h12 hop w3 n136
  refine ⟨J, j1, j2, ?_⟩
  rcases j3 with j3 | ⟨x', q1, q2, q3, q4, q5, q6, q7, q8, q9, q10, q11, q12, q13⟩
  · exact Or.inl j3
  · obtain ⟨hl, -⟩ := law_go (V := V) (fun t => kOk_lt (hc.2.2.2 t)) hV2 g3 gs0 go x' q2 q3
    obtain ⟨-, ⟨ps, -, i3⟩, ⟨i41, i42, -⟩, -⟩ := hl
    rw [q6] at i3
    obtain ⟨r1, r2, r3, r4⟩ := rel_0 i41 i3 (by rw [i42]; exact q7)
    rw [hsc] at q11
    refine Or.inr ⟨x', by omega, q2, q3, q4, q6, q7, q11, q12, q8, q10, (arE_rel 1 _ _).tr q13, ⟨q9.1, q9.2.2.2, r2⟩, ?_⟩
    unfold gf
    rw [if_neg (by omega), if_neg (by omega), if_neg (by omega), if_neg (by omega), q8, cond_false, if_neg (by omega), q11, hk2]
end
