/-! what was read: the same on both sides -/
theorem lwOk_uniq {K : Nat → Nat} {N N' a e e' : Nat} (h : lwOk K N a e) (h' : lwOk K N' a e') : e = e' := by
  obtain ⟨h1, h2, h3, h4, h5, -⟩ := h
  obtain ⟨k1, k2, k3, k4, k5, -⟩ := h'
  apply Classical.byContradiction
  intro hc
  by_cases hlt : e < e'
  · exact k5 e (by omega) hlt h4
  · exact h5 e' (by omega) (by omega) k4
theorem R_cok {B : gm_I} {K V : Nat → Nat} {T z : Nat} {la : Nat → Nat} (hc : cLws B K V T la z) (hz : z ≤ 406) : cLawsOk B := by
  obtain ⟨⟨c1, c2⟩, ⟨s0, s1, s2, s3, s4, s5, t0, t1, t2, t3, t4, t5⟩, c4, c5⟩ := hc
  refine ⟨z, ⟨c2, hz, fun pos hp => ?_⟩, fun j hj => ?_⟩
  · by_cases h6 : 6 ≤ pos
    · exact c4 pos h6 hp
    · rcases (by omega : pos = 0 ∨ pos = 1 ∨ pos = 2 ∨ pos = 3 ∨ pos = 4 ∨ pos = 5) with rfl | rfl | rfl | rfl | rfl | rfl
      · exact ⟨0, by decide, by rw [t0]; rfl, fun _ => by decide⟩
      · exact ⟨0, by decide, by rw [t1]; rfl, fun _ => by decide⟩
      · exact ⟨5, by decide, by rw [t2]; rfl, fun _ => by decide⟩
      · exact ⟨0, by decide, by rw [t3]; rfl, fun _ => by decide⟩
      · exact ⟨0, by decide, by rw [t4]; rfl, fun _ => by decide⟩
      · exact ⟨0, by decide, by rw [t5]; rfl, fun _ => by decide⟩
  · rcases c5 j hj with ⟨-, h⟩ | ⟨e, st, h1, h2, h3, h4, h5⟩
    · exact ⟨2 * j, by omega, h⟩
    · exact ⟨st, by omega, h3⟩
theorem R_mok {B : gm_I} {K V : Nat → Nat} {T s bb cb : Nat} {la : Nat → Nat} (hs : s < 2) (hT : T ≤ 400) (hm : mLws B K V s T la bb cb) {k : Nat} (hk : k < 3) : mLawOk B (3 * s + k) := by
  obtain ⟨⟨a1, a2, a3, a4⟩, b⟩ := hm
  rcases b k hk with ⟨-, e1, e2⟩ | ⟨e, b', c', h1, h2, h3, h4, h5, h6, h7⟩
  · exact ⟨0, 0, Nat.le_refl _, by decide, e1, e2, fun c h1 h2 => by omega⟩
  · have hlw := h1
    obtain ⟨l1, l2, l3, -⟩ := h1
    refine ⟨130 * s + b', 130 * s + b' + (lwAt K V (la k) e).nb, by omega, by omega, h3, h4, fun c x y => ?_⟩
    exact law_ok h2 (by omega) h5 (by omega) c x y
theorem R_half {B : gm_I} {K V : Nat → Nat} {T s bb cb : Nat} {la : Nat → Nat} (hs : s < 2) (hT : T ≤ 400) (hm : mLws B K V s T la bb cb) : mHalf B s := by
  intro k hk
  obtain ⟨⟨a1, a2, a3, a4⟩, b⟩ := hm
  rcases b k hk with ⟨-, e1, e2⟩ | ⟨e, b', c', h1, h2, h3, h4, h5, h6, h7⟩
  · exact ⟨0, 0, e1, e2, Or.inl ⟨rfl, rfl⟩, fun c h1 h2 => by omega⟩
  · refine ⟨130 * s + b', 130 * s + b' + (lwAt K V (la k) e).nb, h3, h4, Or.inr ⟨by omega, by omega, by omega⟩, fun c x y => ?_⟩
    obtain ⟨j, rfl⟩ : ∃ j, c = 130 * s + b' + j := ⟨c - (130 * s + b'), by omega⟩
    obtain ⟨M, hM, hTt, hL, -⟩ := h2
    obtain ⟨g0, g1, g2, g3⟩ := h5.1 j (by omega)
    by_cases hb : j = M
    · subst hb
      obtain ⟨l0, l1, l2, -⟩ := hL
      rw [l0] at g0
      have y1 := sgH_lt l1
      exact ⟨0, _, _, g2, g3, by omega, by omega, by omega, Or.inl g0⟩
    · obtain ⟨k0, k1, k2, k3, k4, k5, -⟩ := hTt j (by omega)
      obtain ⟨g1, g1'⟩ := g1 k0
      have y1 := sgH_lt k2
      have y2 := sgH_lt k3
      have y3 := sgH_lt k4
      exact ⟨_, _, _, g2, g3, by omega, by omega, by omega, Or.inr ⟨g1, by omega, by omega⟩⟩
theorem R_ev {B : gm_I} {K V : Nat → Nat} {T s bb cb z : Nat} {la : Nat → Nat} (hs : s < 2) (hT : T ≤ 400) (hc : cLws B K V T la z) (hz : z ≤ 406) (hm : mLws B K V s T la bb cb) {k : Nat} (hk : k < 3) (va : Nat → Int32) : cLaw B k va = mLawX B s k va := by
  obtain ⟨⟨c1, c2⟩, ⟨s0, s1, s2, s3, s4, s5, t0, t1, t2, t3, t4, t5⟩, c4, c5⟩ := hc
  obtain ⟨⟨a1, a2, a3, a4⟩, b⟩ := hm
  have hzc : (B 15 5).toNatClampNeg = z := by rw [c2]; exact nI_clamp (by omega)
  unfold cLaw mLawX mLaw
  rw [hzc]
  rcases b k hk with ⟨la0, e1, e2⟩ | ⟨e, b', c', h1, h2, h3, h4, h5, h6, h7⟩
  · have h18 : B 18 k = nI (2 * k) := by
      rcases c5 k hk with ⟨-, h⟩ | ⟨e, st, h1, -⟩
      · exact h
      · have := h1.1; omega
    rw [e1, e2, if_neg (by decide), h18, nI_clamp (by omega)]
    rcases (by omega : k = 0 ∨ k = 1 ∨ k = 2) with rfl | rfl | rfl
    · have hp0 : ¬ z ≤ 2 * 0 := by omega
      have hp1 : ¬ z ≤ 2 * 0 + 1 := by omega
      have x0 : B 16 (2 * 0) = 1 := s0
      have x1 : B 16 (2 * 0 + 1) = 2 := s1
      have y0 : B 17 (2 * 0) = 0 := t0
      rw [show (407 : Nat) = 405 + 1 + 1 from rfl]
      unfold cEv
      rw [if_neg hp0, x0, if_neg (by decide), if_pos rfl]
      unfold cEv
      rw [if_neg hp1, x1, if_neg (by decide), if_neg (by decide), if_pos rfl, if_pos (by decide), y0]
      rfl
    · have hp0 : ¬ z ≤ 2 * 1 := by omega
      have hp1 : ¬ z ≤ 2 * 1 + 1 := by omega
      have x0 : B 16 (2 * 1) = 1 := s2
      have x1 : B 16 (2 * 1 + 1) = 2 := s3
      have y0 : B 17 (2 * 1) = 5 := t2
      rw [show (407 : Nat) = 405 + 1 + 1 from rfl]
      unfold cEv
      rw [if_neg hp0, x0, if_neg (by decide), if_pos rfl]
      unfold cEv
      rw [if_neg hp1, x1, if_neg (by decide), if_neg (by decide), if_pos rfl, if_pos (by decide), y0]
      rfl
    · have hp0 : ¬ z ≤ 2 * 2 := by omega
      have hp1 : ¬ z ≤ 2 * 2 + 1 := by omega
      have x0 : B 16 (2 * 2) = 0 := s4
      have x1 : B 16 (2 * 2 + 1) = 2 := s5
      have y0 : B 17 (2 * 2) = 0 := t4
      rw [show (407 : Nat) = 405 + 1 + 1 from rfl]
      unfold cEv
      rw [if_neg hp0, x0, if_pos rfl]
      unfold cEv
      rw [if_neg hp1, x1, if_neg (by decide), if_neg (by decide), if_pos rfl, if_pos (by decide), y0]
      rfl
  · rcases c5 k hk with ⟨la0, -⟩ | ⟨e', st, q1, q2, q3, q4, q5⟩
    · have := h1.1; omega
    · have ee := lwOk_uniq q1 h1
      subst ee
      have hl := h2
      obtain ⟨m, hM, hTt, hL, hcn, hsn, hnb, hv0, hu0, -⟩ := h2
      have hle := h1.2.2.1
      have h2' := h1.1
      have hlt : nI (130 * s + b') < nI (130 * s + b' + (lwAt K V (la k) e').nb) := nI_lt (by omega) (by omega)
      have ev := law_ev (va := va) hl h5 q4 (sz := z) (by omega) hz (by omega) m 0 407 (fun _ => 0) (by omega) (by omega)
      rw [hu0, Nat.add_zero, Nat.add_zero] at ev
      unfold mLw
      rw [q3, nI_clamp (by omega), h3, h4, if_pos hlt, nI_clamp (by omega), nI_clamp (by omega), ev, Nat.add_sub_cancel_left, hM]
      rfl
