/-! the reference's parser: its small steps -/
def kR (r : Nat) : Nat := if r = 3 then 0 else if r = 0 then 3 else if r = 4 then 59 else if r = 5 then 61 else if r = 6 then 40 else if r = 7 then 41 else if r = 8 then 43 else if r = 9 then 45 else if r = 10 then 42 else if r = 13 then 60 else if r = 15 then 47 else if 20 ≤ r then 128 + kprm (r - 20) else r
theorem kR_rK : ∀ k : Fin 148, kOk k.val = true → kR (rK k.val) = k.val ∧ rK k.val < 40 := by decide
theorem rK_lt {k : Nat} (h : kOk k = true) : rK k < 40 := (kR_rK ⟨k, kOk_lt h⟩ h).2
theorem rK_inj {j k : Nat} (hj : kOk j = true) (hk : kOk k = true) : nI (rK j) = nI (rK k) ↔ j = k := by
  constructor
  · intro h
    have h1 := (kR_rK ⟨j, kOk_lt hj⟩ hj).1
    have h2 := (kR_rK ⟨k, kOk_lt hk⟩ hk).1
    simp only [] at h1 h2
    have := (nK_eq (by have := rK_lt hj; omega) (by have := rK_lt hk; omega)).mp h
    rw [← h1, ← h2, this]
  · intro h; rw [h]
def cxP (K : Nat → Nat) (M : Nat) : Prop := M ≤ 400 ∧ (∀ x, x < M → ¬ K x = 3) ∧ (K M = 3 ∨ M = 400) ∧ ∀ x, kOk (K x) = true
theorem okT_M {K : Nat → Nat} {M t : Nat} (h : cxP K M) (hok : okT K g0 t) : t ≤ M := by
  rcases h.2.2.1 with e | e
  · apply Classical.byContradiction
    intro hc
    exact okT_K hok (by omega : M < t) e
  · rw [e]; exact hok.1
/-- only the object's fields, and of these few -/
def Fo (J : List Nat) (im im' : gm_I) : Prop := (∀ q, q ≠ 84 → im' q = im q) ∧ ∀ j, j ∉ J → im' 84 j = im 84 j
theorem Fo.rf (J : List Nat) (im : gm_I) : Fo J im im := ⟨fun _ _ => rfl, fun _ _ => rfl⟩
theorem Fo.tr {J : List Nat} {a b c : gm_I} (h : Fo J a b) (k : Fo J b c) : Fo J a c := ⟨fun q hq => (k.1 q hq).trans (h.1 q hq), fun j hj => (k.2 j hj).trans (h.2 j hj)⟩
theorem Fo.mo {J J' : List Nat} {a b : gm_I} (h : Fo J a b) (k : ∀ q, q ∈ J → q ∈ J') : Fo J' a b := ⟨h.1, fun j hj => h.2 j (fun hh => hj (k j hh))⟩
theorem Fo.up {J : List Nat} {a b : gm_I} (h : Fo J a b) {k : Nat} {v : Int32} (hk : k ∈ J) : Fo J a (gm_up b 84 k v) := ⟨fun q hq => by rw [gu_row hq]; exact h.1 q hq, fun j hj => by
  have : j ≠ k := fun e => hj (by rw [e]; exact hk)
  rw [gu_nk this]; exact h.2 j hj⟩
def pO (im : gm_I) (t : Nat) : Prop := im 84 11 = nI t ∧ im 84 13 = 0
def pB (K P : Nat → Nat) (im : gm_I) : Prop := ∃ T f t, foT K g0 T f ∧ ¬ f = 0 ∧ f ≤ 2 ∧ im 84 13 = nI f ∧ im 84 14 = nI (P T) ∧ t ≤ 400 ∧ im 84 11 = nI t
theorem pB_fr {K P : Nat → Nat} {im im' : gm_I} (h : pB K P im) (h1 : im' 84 11 = im 84 11) (h2 : im' 84 13 = im 84 13) (h3 : im' 84 14 = im 84 14) : pB K P im' := by
  unfold pB
  rw [h1, h2, h3]
  exact h
theorem pB_ne {K P : Nat → Nat} {im : gm_I} (h : pB K P im) : ¬ im 84 13 = 0 ∧ ¬ im 84 13 ≤ 0 := by
  obtain ⟨T, f, t, h1, h2, h3, h4, -⟩ := h
  rw [h4]
  exact ⟨nI_ne0 (by omega) (by omega), nI_nle (by omega) (by omega)⟩
section
variable {im : gm_I} {lm : gm_L} {K V P W : Nat → Nat} {M t : Nat}
theorem M_isK (hk : mTks im lm K V P W (M + 1)) (hc : cxP K M) (hok : okT K g0 t) (hp : pO im t) {k : Nat} (hkk : kOk k = true) {c : Int32} (ec : c = nI (rK k)) : gm_den 176 0 [.ref 84, .int c] [] 128 gm_RF im lm = some (some (.int (b32 (K t == k))), 128, gm_RF, im, lm) := by
  subst ec
  have htM := okT_M hc hok
  obtain ⟨e1, -⟩ := hk t (by omega)
  have hM := hc.1
  have c2 : gm_in (nI t) 403 = true := gm_in_nI (by omega) (by decide)
  have c3 : (nI t).toNatClampNeg = t := nI_clamp (by omega)
  have hi := rK_inj (hc.2.2.2 t) hkk
  by_cases h : K t = k
  · have e2 : nI (rK (K t)) = nI (rK k) := hi.mpr h
    rw [show (K t == k) = true by simp [h]]
    simp (decide := true) only [QX12_is, hp.1, hp.2, c2, c3, e1, e2, if_true, if_false, not_true_eq_false]; rfl
  · have e2 : ¬ nI (rK (K t)) = nI (rK k) := fun e => h (hi.mp e)
    rw [show (K t == k) = false by simp [h]]
    simp (decide := true) only [QX12_is, hp.1, hp.2, c2, c3, e1, e2, if_true, if_false, not_true_eq_false, not_false_eq_true]; rfl
theorem M_isB (h : pB K P im) (c : Int32) : gm_den 176 0 [.ref 84, .int c] [] 128 gm_RF im lm = some (some (.int 0), 128, gm_RF, im, lm) := by
  have e := (pB_ne h).1
  simp (decide := true) only [QX12_is, e, if_true, not_false_eq_true]
theorem M_failB (h : pB K P im) (c : Int32) : gm_den 177 0 [.ref 84, .int c] [] 128 gm_RF im lm = some (none, 128, gm_RF, im, lm) := by
  have e := (pB_ne h).2
  simp (decide := true) only [QX12_fail, e, if_false]
theorem M_failO (hk : mTks im lm K V P W (M + 1)) (hc : cxP K M) (hok : okT K g0 t) (hp : pO im t) {f : Nat} (hf : foT K g0 t f) (hf0 : ¬ f = 0) (hf2 : f ≤ 2) : ∃ im', gm_den 177 0 [.ref 84, .int (nI f)] [] 128 gm_RF im lm = some (none, 128, gm_RF, im', lm) ∧ Fo [11, 13, 14] im im' ∧ pB K P im' := by
  have htM := okT_M hc hok
  obtain ⟨-, e1, -⟩ := hk t (by omega)
  have hM := hc.1
  have c2 : gm_in (nI t) 403 = true := gm_in_nI (by omega) (by decide)
  have c3 : (nI t).toNatClampNeg = t := nI_clamp (by omega)
  have e11 : gm_up im 84 13 (nI f) 84 11 = nI t := by rw [gu_nk (by decide)]; exact hp.1
  have e88 : gm_up im 84 13 (nI f) 88 t = nI (P t) := by rw [gu_ne (by decide)]; exact e1
  refine ⟨gm_up (gm_up im 84 13 (nI f)) 84 14 (nI (P t)), ?_, ((Fo.rf _ _).up (by decide)).up (by decide), t, f, t, hf, hf0, hf2, ?_, gu_eq, hok.1, ?_⟩
  · simp (decide := true) only [QX12_fail, hp.2, e11, e88, c2, c3, if_true, if_false]
  · rw [gu_nk (by decide)]; exact gu_eq
  · rw [gu_nk (by decide)]; exact e11
theorem M_goes (hk : mTks im lm K V P W (M + 1)) (hc : cxP K M) (hok : okT K g0 t) (hp : pO im t) (h1 : ¬ gE K g0 t) (h2 : gf (gst K g0 t) (K t) = 0) : ∃ im', gm_den 179 0 [.ref 84] [] 128 gm_RF im lm = some (none, 128, gm_RF, im', lm) ∧ Fo [11, 13, 14] im im' ∧ ((okT K g0 (t + 1) ∧ pO im' (t + 1)) ∨ pB K P im') := by
  have hgo := okT_go hok h1 h2
  have h4 := hok.1
  by_cases ht : t = 400
  · obtain ⟨im', q1, q2, q3⟩ := M_failO hk hc hok hp (hgo.1 ht) (by decide) (by decide)
    have e : im 84 11 = 400 := by rw [hp.1, ht]; rfl
    have z2 : nI 2 = 2 := rfl
    rw [z2] at q1
    refine ⟨im', ?_, q2, Or.inr q3⟩
    simp (decide := true) only [QX12_goesOn, e, if_true, if_false, not_true_eq_false, q1, gm_cont_v]
  · have e : ¬ nI t = 400 := fun h => ht ((nK_eq (by omega) (by decide)).mp h)
    refine ⟨gm_up im 84 11 (nI (t + 1)), ?_, (Fo.rf _ _).up (by decide), Or.inl ⟨hgo.2 ht, gu_eq, ?_⟩⟩
    · simp (decide := true) only [QX12_goesOn, hp.1, e, if_true, if_false, not_false_eq_true, nI_a1]
    · rw [gu_nk (by decide)]; exact hp.2
theorem M_goesB (h : pB K P im) : ∃ im', gm_den 179 0 [.ref 84] [] 128 gm_RF im lm = some (none, 128, gm_RF, im', lm) ∧ Fo [11, 13, 14] im im' ∧ pB K P im' := by
  have hB := h
  obtain ⟨T, f, t, h1, h2, h3, h4, h5, h6, h7⟩ := h
  by_cases ht : t = 400
  · have e : im 84 11 = 400 := by rw [h7, ht]; rfl
    refine ⟨im, ?_, Fo.rf _ _, hB⟩
    simp (decide := true) only [QX12_goesOn, e, if_true, if_false, not_true_eq_false, M_failB hB, gm_cont_v]
  · have e : ¬ nI t = 400 := fun h => ht ((nK_eq (by omega) (by decide)).mp h)
    refine ⟨gm_up im 84 11 (nI (t + 1)), ?_, (Fo.rf _ _).up (by decide), T, f, t + 1, h1, h2, h3, ?_, ?_, by omega, gu_eq⟩
    · simp (decide := true) only [QX12_goesOn, h7, e, if_true, if_false, not_false_eq_true, nI_a1]
    · rw [gu_nk (by decide)]; exact h4
    · rw [gu_nk (by decide)]; exact h5
/-- a token that must come -/
theorem M_must (hk : mTks im lm K V P W (M + 1)) (hc : cxP K M) (hok : okT K g0 t) (hp : pO im t) (h1 : ¬ gE K g0 t) {k : Nat} (hkk : kOk k = true) (h2 : gf (gst K g0 t) (K t) = if K t = k then 0 else 1) {c : Int32} (ec : c = nI (rK k)) : ∃ im', gm_den 180 0 [.ref 84, .int c] [] 128 gm_RF im lm = some (none, 128, gm_RF, im', lm) ∧ Fo [11, 13, 14] im im' ∧ ((K t = k ∧ gf (gst K g0 t) (K t) = 0 ∧ okT K g0 (t + 1) ∧ pO im' (t + 1)) ∨ pB K P im') := by
  have hi := M_isK hk hc hok hp hkk ec
  by_cases h : K t = k
  · rw [if_pos h] at h2
    rw [show (K t == k) = true by simp [h]] at hi
    obtain ⟨im', q1, q2, q3⟩ := M_goes hk hc hok hp h1 h2
    refine ⟨im', ?_, q2, ?_⟩
    · simp (decide := true) only [QX12_must, hi, gm_cont_i, b32_t, if_false, q1, gm_cont_v]
    · rcases q3 with ⟨a, b⟩ | a
      · exact Or.inl ⟨h, h2, a, b⟩
      · exact Or.inr a
  · rw [if_neg h] at h2
    rw [show (K t == k) = false by simp [h]] at hi
    obtain ⟨im', q1, q2, q3⟩ := M_failO hk hc hok hp (foT_bad hok h1 h2 (by decide)) (by decide) (by decide)
    have z1 : nI 1 = 1 := rfl
    rw [z1] at q1
    refine ⟨im', ?_, q2, Or.inr q3⟩
    simp (decide := true) only [QX12_must, hi, gm_cont_i, b32_f, if_true, q1, gm_cont_v]
theorem M_mustB (h : pB K P im) (c : Int32) : gm_den 180 0 [.ref 84, .int c] [] 128 gm_RF im lm = some (none, 128, gm_RF, im, lm) := by
  simp (decide := true) only [QX12_must, M_isB h, gm_cont_i, if_true, M_failB h, gm_cont_v]
def emM (im : gm_I) (z : Nat) (k v : Int32) : gm_I := gm_up (gm_up (gm_up im 111 z k) 112 z v) 84 41 (nI (z + 1))
theorem M_emit {z : Nat} (h : im 84 41 = nI z) (hz : z < 840) (k v : Int32) : gm_den 195 0 [.ref 84, .int k, .int v] [] 128 gm_RF im lm = some (none, 128, gm_RF, emM im z k v, lm) := by
  have c2 : gm_in (nI z) 840 = true := gm_in_nI hz (by decide)
  have c3 : (nI z).toNatClampNeg = z := nI_clamp (by omega)
  have e1 : gm_up im 111 z k 84 41 = nI z := by rw [gu_ne (by decide)]; exact h
  have e2 : gm_up (gm_up im 111 z k) 112 z v 84 41 = nI z := by rw [gu_ne (by decide)]; exact e1
  unfold emM
  simp (decide := true) only [QX12_emit, h, c2, c3, e1, e2, if_true, nI_a1]
end
/-! codes as they come -/
/-- codes from z on, and the signs that wait -/
def mCd (im : gm_I) (z : Nat) (L : LW) : Prop := im 84 41 = nI (z + L.cn) ∧ im 84 45 = nI L.wn ∧ (∀ i, i < L.wn → im 113 i = nI (rK (L.W i))) ∧ ∀ x, x < L.cn → im 111 (z + x) = nI (L.C x).1 ∧ im 112 (z + x) = nI (L.C x).2
theorem mCd_cg {im : gm_I} {z : Nat} {L L' : LW} (h : mCd im z L) (h1 : L'.cn = L.cn) (h2 : L'.wn = L.wn) (h3 : L'.W = L.W) (h4 : L'.C = L.C) : mCd im z L' := by
  unfold mCd
  rw [h1, h2, h3, h4]
  exact h
theorem mCd_fr {im im' : gm_I} {z : Nat} {L : LW} (h : mCd im z L) (h1 : im' 84 41 = im 84 41) (h2 : im' 84 45 = im 84 45) (h3 : im' 113 = im 113) (h4 : im' 111 = im 111) (h5 : im' 112 = im 112) : mCd im' z L := by
  unfold mCd
  rw [h1, h2, h3, h4, h5]
  exact h
/-- what codes leave alone: all before z, all but codes, waits and three fields -/
def Ck (z u : Nat) (im im' : gm_I) : Prop := (∀ q, q ≠ 84 → q ≠ 111 → q ≠ 112 → q ≠ 113 → im' q = im q) ∧ (∀ j, j ∉ [11, 12, 13, 14, 41, 45] → im' 84 j = im 84 j) ∧ (∀ q y, q = 111 ∨ q = 112 → (y < z ∨ u ≤ y) → im' q y = im q y)
theorem Ck.rf (z u : Nat) (im : gm_I) : Ck z u im im := ⟨fun _ _ _ _ _ => rfl, fun _ _ => rfl, fun _ _ _ _ => rfl⟩
theorem Ck.tr {z u : Nat} {a b c : gm_I} (h : Ck z u a b) (k : Ck z u b c) : Ck z u a c := ⟨fun q h1 h2 h3 h4 => (k.1 q h1 h2 h3 h4).trans (h.1 q h1 h2 h3 h4), fun j hj => (k.2.1 j hj).trans (h.2.1 j hj), fun q y h1 h2 => (k.2.2 q y h1 h2).trans (h.2.2 q y h1 h2)⟩
theorem Fo.ck {z u : Nat} {a b : gm_I} (h : Fo [11, 13, 14] a b) : Ck z u a b := ⟨fun q h1 _ _ _ => h.1 q h1, fun j hj => h.2 j (fun hh => hj (by simp at hh ⊢; omega)), fun q y h1 _ => by rw [h.1 q (by omega)]⟩
theorem mCd_emit {im : gm_I} {z c u : Nat} {L : LW} (h : mCd im z L) (hb : c ≤ z) (hz : z + L.cn < u) {e : Nat × Nat} : mCd (emM im (z + L.cn) (nI e.1) (nI e.2)) z (apC L e) ∧ Ck c u im (emM im (z + L.cn) (nI e.1) (nI e.2)) := by
  obtain ⟨h1, h2, h3, h4⟩ := h
  unfold emM
  refine ⟨⟨gu_eq, ?_, fun i hi => ?_, fun x hx => ?_⟩, fun q q1 q2 q3 q4 => ?_, fun j hj => ?_, fun q y hq hy => ?_⟩
  · rw [gu_nk (by decide), gu_ne (by decide), gu_ne (by decide)]; exact h2
  · rw [gu_ne (by decide), gu_ne (by decide), gu_ne (by decide)]; exact h3 i hi
  · have hx' : x < L.cn + 1 := hx
    have hC : (apC L e).C x = if x = L.cn then e else L.C x := rfl
    rw [hC]
    by_cases ex : x = L.cn
    · subst ex
      rw [if_pos rfl]
      refine ⟨?_, ?_⟩
      · rw [gu_ne (by decide), gu_ne (by decide)]; exact gu_eq
      · rw [gu_ne (by decide)]; exact gu_eq
    · rw [if_neg ex]
      have := h4 x (by omega)
      refine ⟨?_, ?_⟩
      · rw [gu_ne (by decide), gu_ne (by decide), gu_nk (by omega)]; exact this.1
      · rw [gu_ne (by decide), gu_nk (by omega), gu_ne (by decide)]; exact this.2
  · rw [gu_row q1, gu_row q3, gu_row q2]
  · have : j ≠ 41 := fun ej => hj (by rw [ej]; decide)
    rw [gu_nk this, gu_ne (by decide), gu_ne (by decide)]
  · rcases hq with rfl | rfl
    · rw [gu_ne (by decide), gu_ne (by decide), gu_nk (by omega)]
    · rw [gu_ne (by decide), gu_nk (by omega), gu_ne (by decide)]
theorem rK_op {k : Nat} (h : k = 40 ∨ k = 43 ∨ k = 45 ∨ k = 42 ∨ k = 47) : kOk k = true := by
  rcases h with rfl | rfl | rfl | rfl | rfl <;> rfl
/-- signs come out -/
theorem M_out {r : Nat} (hr : r = 1 ∨ r = 2) {z c u : Nat} (lm : gm_L) : ∀ (f : Nat) (L : LW) (im : gm_I), L.wn ≤ f → L.wn ≤ 60 → mCd im z L → stO L.W L.wn → c ≤ z → z + L.cn + L.wn ≤ u → u ≤ 840 → ∀ x2 : Value, x2.category = 1 → ∃ im', gm_den 196 0 [.ref 84, .int (nI (r - 1)), x2] [] 128 gm_RF im lm = some (none, 128, gm_RF, im', lm) ∧ mCd im' z (relF r f L) ∧ Ck c u im im' ∧ (∀ j, j = 11 ∨ j = 12 ∨ j = 13 ∨ j = 14 → im' 84 j = im 84 j) := by
  intro f
  induction f with
  | zero =>
    intro L im hf hw hC hst hcz hz h840 x2 c2
    have e0 : im 84 45 ≤ 0 := by rw [hC.2.1, show L.wn = 0 by omega]; decide
    refine ⟨im, ?_, hC, Ck.rf _ _ _, fun _ _ => rfl⟩
    rw [LX12_comesOut_0]
    simp (decide := true) only [QX12_comesOut, e0, if_true]
  | succ f ih =>
    intro L im hf hw hC hst hcz hz h840 x2 c2
    simp only [relF]
    by_cases h0 : L.wn = 0
    · have e0 : im 84 45 ≤ 0 := by rw [hC.2.1, h0]; decide
      rw [if_neg (by omega)]
      refine ⟨im, ?_, hC, Ck.rf _ _ _, fun _ _ => rfl⟩
      rw [LX12_comesOut_0]
      simp (decide := true) only [QX12_comesOut, e0, if_true]
    · obtain ⟨m, hm⟩ : ∃ m, L.wn = m + 1 := ⟨L.wn - 1, by omega⟩
      obtain ⟨l1, l2, l3, l4⟩ := hC
      have e0 : ¬ nI L.wn ≤ 0 := nI_nle (by omega) (by omega)
      have e1 : nI L.wn - 1 = nI m := by rw [nI_m1 (by omega), hm]; rfl
      have e2 : gm_in (nI m) 64 = true := gm_in_nI (by omega) (by decide)
      have e3 : (nI m).toNatClampNeg = m := nI_clamp (by omega)
      have e4 := l3 m (by omega)
      rw [hm] at hst
      have htop := stO_top hst
      rw [show L.wn - 1 = m by omega]
      -- what a sign becomes
      have pop : ∀ (q : L.W m = 43 ∨ L.W m = 45 ∨ L.W m = 42 ∨ L.W m = 47) (hgo : ∀ J : gm_I, gm_den 195 0 [.ref 84, .int (nI (opC (L.W m))), .int 0] [] 128 gm_RF (gm_up im 84 45 (nI m)) lm = some (none, 128, gm_RF, J, lm) → gm_den 196 0 [.ref 84, .int (nI (r - 1)), x2] [] 128 gm_RF im lm = gm_den 196 0 [.ref 84, .int (nI (r - 1)), .int (nI (rK (L.W m)))] [] 128 gm_RF J lm), ∃ im', gm_den 196 0 [.ref 84, .int (nI (r - 1)), x2] [] 128 gm_RF im lm = some (none, 128, gm_RF, im', lm) ∧ mCd im' z (relF r f (popW L)) ∧ Ck c u im im' ∧ (∀ j, j = 11 ∨ j = 12 ∨ j = 13 ∨ j = 14 → im' 84 j = im 84 j) := by
        intro q hgo
        have hL1 : mCd (gm_up im 84 45 (nI m)) z (LW.mk L.W m L.C L.cn L.S L.sn L.li L.nb L.hs L.t0 L.t1 L.t2 L.t3 L.u L.v) := by
          refine ⟨?_, gu_eq, fun i hi => ?_, fun x hx => ?_⟩
          · rw [gu_nk (by decide)]; exact l1
          · rw [gu_ne (by decide)]; exact l3 i (by have : i < m := hi; omega)
          · rw [gu_ne (by decide), gu_ne (by decide)]; exact l4 x hx
        have he := M_emit (lm := lm) (z := z + L.cn) hL1.1 (by omega) (nI (opC (L.W m))) 0
        obtain ⟨q1, q2⟩ := mCd_emit (c := c) (u := u) (e := (opC (L.W m), 0)) hL1 hcz (by show z + L.cn < _; omega)
        have hpw : (popW L).wn = m := by show L.wn - 1 = m; omega
        have hpc : (popW L).cn = L.cn + 1 := rfl
        have hP : mCd (emM (gm_up im 84 45 (nI m)) (z + L.cn) (nI (opC (L.W m))) 0) z (popW L) := by
          refine mCd_cg q1 rfl hpw rfl ?_
          show udN L.C L.cn (opC (L.W (L.wn - 1)), 0) = udN L.C L.cn (opC (L.W m), 0)
          rw [show L.wn - 1 = m by omega]
        obtain ⟨im', i1, i2, i3, i4⟩ := ih (popW L) _ (by rw [hpw]; omega) (by rw [hpw]; omega) hP (by rw [hpw]; exact hst.1) hcz (by rw [hpw, hpc]; omega) h840 (.int (nI (rK (L.W m)))) rfl
        have ck0 : Ck c u im (gm_up im 84 45 (nI m)) := ⟨fun q h1 _ _ _ => gu_row h1, fun j hj => gu_nk (fun e => hj (by rw [e]; decide)), fun q y h1 _ => gu_ne (by omega)⟩
        refine ⟨im', (hgo _ he).trans i1, i2, (ck0.tr q2).tr i3, fun j hj => ?_⟩
        rw [i4 j hj]
        unfold emM
        rw [gu_nk (by omega), gu_ne (by decide), gu_ne (by decide), gu_nk (by omega)]
      have e6 : gm_up im 84 45 (nI m) 84 45 = nI m := gu_eq
      rcases hr with hr | hr
      · subst hr
        have z0 : nI (1 - 1) = 0 := rfl
        rcases htop with q | q | q | q | q
        · have e5 : nI (rK (L.W m)) = 6 := by rw [q]; rfl
          rw [q, if_neg (fun h => absurd h.2 (by decide))]
          refine ⟨im, ?_, ⟨l1, l2, l3, l4⟩, Ck.rf _ _ _, fun _ _ => rfl⟩
          rw [LX12_comesOut_0]
          simp (decide := true) only [QX12_comesOut, l2, e0, e1, e2, e3, e4, e5, z0, if_true, if_false]
        · have e5 : nI (rK (L.W m)) = 8 := by rw [q]; rfl
          rw [if_pos ⟨by omega, by rw [q]; decide⟩]
          refine pop (by omega) (fun J hJ => ?_)
          rw [q] at hJ
          have hJ' : gm_den 195 0 [.ref 84, .int 2, .int 0] [] 128 gm_RF (gm_up im 84 45 (nI m)) lm = some (none, 128, gm_RF, J, lm) := hJ
          rw [LX12_comesOut_0]
          simp (decide := true) only [QX12_comesOut, l2, e0, e1, e2, e3, e4, e5, z0, if_true, if_false, hJ', gm_cont_v, not_true_eq_false, not_false_eq_true]
        · have e5 : nI (rK (L.W m)) = 9 := by rw [q]; rfl
          rw [if_pos ⟨by omega, by rw [q]; decide⟩]
          refine pop (by omega) (fun J hJ => ?_)
          rw [q] at hJ
          have hJ' : gm_den 195 0 [.ref 84, .int 3, .int 0] [] 128 gm_RF (gm_up im 84 45 (nI m)) lm = some (none, 128, gm_RF, J, lm) := hJ
          rw [LX12_comesOut_0]
          simp (decide := true) only [QX12_comesOut, l2, e0, e1, e2, e3, e4, e5, z0, if_true, if_false, hJ', gm_cont_v, not_true_eq_false, not_false_eq_true]
        · have e5 : nI (rK (L.W m)) = 10 := by rw [q]; rfl
          rw [if_pos ⟨by omega, by rw [q]; decide⟩]
          refine pop (by omega) (fun J hJ => ?_)
          rw [q] at hJ
          have hJ' : gm_den 195 0 [.ref 84, .int 4, .int 0] [] 128 gm_RF (gm_up im 84 45 (nI m)) lm = some (none, 128, gm_RF, J, lm) := hJ
          rw [LX12_comesOut_0]
          simp (decide := true) only [QX12_comesOut, l2, e0, e1, e2, e3, e4, e5, z0, if_true, if_false, hJ', gm_cont_v, not_true_eq_false, not_false_eq_true]
        · have e5 : nI (rK (L.W m)) = 15 := by rw [q]; rfl
          rw [if_pos ⟨by omega, by rw [q]; decide⟩]
          refine pop (by omega) (fun J hJ => ?_)
          rw [q] at hJ
          have hJ' : gm_den 195 0 [.ref 84, .int 5, .int 0] [] 128 gm_RF (gm_up im 84 45 (nI m)) lm = some (none, 128, gm_RF, J, lm) := hJ
          rw [LX12_comesOut_0]
          simp (decide := true) only [QX12_comesOut, l2, e0, e1, e2, e3, e4, e5, z0, if_true, if_false, hJ', gm_cont_v, not_true_eq_false, not_false_eq_true]
      · subst hr
        have z0 : nI (2 - 1) = 1 := rfl
        rcases htop with q | q | q | q | q
        · have e5 : nI (rK (L.W m)) = 6 := by rw [q]; rfl
          rw [q, if_neg (fun h => absurd h.2 (by decide))]
          refine ⟨im, ?_, ⟨l1, l2, l3, l4⟩, Ck.rf _ _ _, fun _ _ => rfl⟩
          rw [LX12_comesOut_0]
          simp (decide := true) only [QX12_comesOut, l2, e0, e1, e2, e3, e4, e5, z0, if_true, if_false]
        · have e5 : nI (rK (L.W m)) = 8 := by rw [q]; rfl
          rw [q, if_neg (fun h => absurd h.2 (by decide))]
          refine ⟨im, ?_, ⟨l1, l2, l3, l4⟩, Ck.rf _ _ _, fun _ _ => rfl⟩
          rw [LX12_comesOut_0]
          simp (decide := true) only [QX12_comesOut, l2, e0, e1, e2, e3, e4, e5, z0, if_true, if_false]
        · have e5 : nI (rK (L.W m)) = 9 := by rw [q]; rfl
          rw [q, if_neg (fun h => absurd h.2 (by decide))]
          refine ⟨im, ?_, ⟨l1, l2, l3, l4⟩, Ck.rf _ _ _, fun _ _ => rfl⟩
          rw [LX12_comesOut_0]
          simp (decide := true) only [QX12_comesOut, l2, e0, e1, e2, e3, e4, e5, z0, if_true, if_false, not_true_eq_false]
        · have e5 : nI (rK (L.W m)) = 10 := by rw [q]; rfl
          rw [if_pos ⟨by omega, by rw [q]; decide⟩]
          refine pop (by omega) (fun J hJ => ?_)
          rw [q] at hJ
          have hJ' : gm_den 195 0 [.ref 84, .int 4, .int 0] [] 128 gm_RF (gm_up im 84 45 (nI m)) lm = some (none, 128, gm_RF, J, lm) := hJ
          rw [LX12_comesOut_0]
          simp (decide := true) only [QX12_comesOut, l2, e0, e1, e2, e3, e4, e5, z0, if_true, if_false, hJ', gm_cont_v, not_true_eq_false, not_false_eq_true]
        · have e5 : nI (rK (L.W m)) = 15 := by rw [q]; rfl
          rw [if_pos ⟨by omega, by rw [q]; decide⟩]
          refine pop (by omega) (fun J hJ => ?_)
          rw [q] at hJ
          have hJ' : gm_den 195 0 [.ref 84, .int 5, .int 0] [] 128 gm_RF (gm_up im 84 45 (nI m)) lm = some (none, 128, gm_RF, J, lm) := hJ
          rw [LX12_comesOut_0]
          simp (decide := true) only [QX12_comesOut, l2, e0, e1, e2, e3, e4, e5, z0, if_true, if_false, hJ', gm_cont_v, not_true_eq_false, not_false_eq_true]
