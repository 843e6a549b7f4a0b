/-! a law that was read: steps and codes say the same -/
theorem seg_ev {stp arg cd ci va : Nat → Int32} {sz : Nat} {C : Nat → Nat × Nat} {p q cb pos o : Nat} (hH : sgH C p q 1) (hC : ∀ x, x < q - p → cd (cb + p + x) = nI (C (p + x)).1 ∧ ci (cb + p + x) = nI (C (p + x)).2) (hS : ∀ x, x < q - p → stp (pos + x) = nI (enS (C (p + x))).1 ∧ arg (pos + x) = nI (enS (C (p + x))).2) (hsz : pos + (q - p) ≤ sz) (f : Nat) : ∀ (d x : Nat) (nu pi : Nat → Int32), x + d = q - p → (∀ i, i < cHt C p x → nu (o + i) = pi i) →
    ((mTk cd ci va (cb + q) d (cb + p + x) (cHt C p x) pi).1 = true → (cEv stp arg sz va (f + d) (pos + x) (o + cHt C p x) nu).1 = 0) ∧
    ((mTk cd ci va (cb + q) d (cb + p + x) (cHt C p x) pi).1 = false → ∃ nu', cEv stp arg sz va (f + d) (pos + x) (o + cHt C p x) nu = cEv stp arg sz va f (pos + (q - p)) (o + 1) nu' ∧ nu' o = (mTk cd ci va (cb + q) d (cb + p + x) (cHt C p x) pi).2.1 ∧ ∀ i, i < o → nu' i = nu i) := by
  obtain ⟨h1, h2, h3⟩ := hH
  intro d
  induction d with
  | zero =>
    intro x nu pi hx hnu
    have e : x = q - p := by omega
    subst e
    refine ⟨fun h => (by cases h), fun _ => ⟨nu, ?_, ?_, fun _ _ => rfl⟩⟩
    · rw [h3]; rfl
    · show nu o = pi 0
      exact hnu 0 (by omega)
  | succ d ih =>
    intro x nu pi hx hnu
    have hx2 : x < q - p := by omega
    obtain ⟨c1, c2⟩ := hC x hx2
    obtain ⟨s1, s2⟩ := hS x hx2
    have hto : ¬ cb + q ≤ cb + p + x := by omega
    have hsz2 : ¬ sz ≤ pos + x := by omega
    have hcd := h2 x hx2
    have ihx := ih (x + 1)
    have hht : cHt C p (x + 1) = if (C (p + x)).1 < 2 then cHt C p x + 1 else cHt C p x - 1 := rfl
    unfold cCd at hcd
    have en : ∀ {z}, (C (p + x)).1 = z → 2 ≤ z → enS (C (p + x)) = (if z = 2 then 43 else if z = 3 then 45 else if z = 4 then 42 else 47, 0) := by
      intro z hz hz2
      unfold enS
      rw [hz, if_neg (by omega)]
    have es : ∀ {z}, (C (p + x)).1 = z → z < 2 → enS (C (p + x)) = C (p + x) := by
      intro z hz hz2
      unfold enS
      rw [hz, if_pos hz2]
    rw [show f + (d + 1) = (f + d) + 1 by omega]
    -- the binary signs
    have bin : ∀ (z : Nat) (v : Int32), (C (p + x)).1 = z → 2 ≤ z → 2 ≤ cHt C p x → v = v →
        (∀ i, i < cHt C p x - 1 → upd nu (o + cHt C p x - 2) v (o + i) = upd pi (cHt C p x - 2) v i) := by
      intro z v hz hz2 hh _ i hi
      unfold upd
      by_cases hi2 : i = cHt C p x - 2
      · rw [if_pos (by omega), if_pos hi2]
      · rw [if_neg (by omega), if_neg hi2]; exact hnu i (by omega)
    have lft : 2 ≤ cHt C p x → nu (o + cHt C p x - 2) = pi (cHt C p x - 2) ∧ nu (o + cHt C p x - 1) = pi (cHt C p x - 1) := by
      intro hh
      rw [show o + cHt C p x - 2 = o + (cHt C p x - 2) by omega, show o + cHt C p x - 1 = o + (cHt C p x - 1) by omega]
      exact ⟨hnu _ (by omega), hnu _ (by omega)⟩
    rcases hcd with ⟨k0, -⟩ | ⟨k1, k9⟩ | ⟨k2, k5, -, kh⟩
    · rw [k0] at c1
      rw [es k0 (by decide)] at s1 s2
      rw [k0] at s1
      have c1' : cd (cb + p + x) = 0 := c1
      have s1' : stp (pos + x) = 0 := s1
      rw [hht, k0, if_pos (by decide)] at ihx
      have key := ihx (upd nu (o + cHt C p x) (arg (pos + x))) (upd pi (cHt C p x) (ci (cb + p + x))) (by omega) (by
        intro i hi
        unfold upd
        by_cases hi2 : i = cHt C p x
        · rw [if_pos (by omega), if_pos hi2, s2, c2]
        · rw [if_neg (by omega), if_neg hi2]; exact hnu i (by omega))
      have e1 : mTk cd ci va (cb + q) (d + 1) (cb + p + x) (cHt C p x) pi = mTk cd ci va (cb + q) d (cb + p + (x + 1)) (cHt C p x + 1) (upd pi (cHt C p x) (ci (cb + p + x))) := by
        simp only [mTk, hto, if_false, c1', if_true]; rfl
      have e2 : cEv stp arg sz va (f + d + 1) (pos + x) (o + cHt C p x) nu = cEv stp arg sz va (f + d) (pos + (x + 1)) (o + (cHt C p x + 1)) (upd nu (o + cHt C p x) (arg (pos + x))) := by
        simp only [cEv, hsz2, if_false, s1', if_true]; rfl
      rw [e1, e2]
      refine ⟨key.1, fun h => ?_⟩
      obtain ⟨nu', a1, a2, a3⟩ := key.2 h
      refine ⟨nu', a1, a2, fun i hi => ?_⟩
      rw [a3 i hi]
      unfold upd
      rw [if_neg (by omega)]
    · rw [k1] at c1
      rw [es k1 (by decide)] at s1 s2
      rw [k1] at s1
      have c1' : cd (cb + p + x) = 1 := c1
      have s1' : stp (pos + x) = 1 := s1
      rw [hht, k1, if_pos (by decide)] at ihx
      have key := ihx (upd nu (o + cHt C p x) (va (arg (pos + x)).toNatClampNeg)) (upd pi (cHt C p x) (va (ci (cb + p + x)).toNatClampNeg)) (by omega) (by
        intro i hi
        unfold upd
        by_cases hi2 : i = cHt C p x
        · rw [if_pos (by omega), if_pos hi2, s2, c2]
        · rw [if_neg (by omega), if_neg hi2]; exact hnu i (by omega))
      have e1 : mTk cd ci va (cb + q) (d + 1) (cb + p + x) (cHt C p x) pi = mTk cd ci va (cb + q) d (cb + p + (x + 1)) (cHt C p x + 1) (upd pi (cHt C p x) (va (ci (cb + p + x)).toNatClampNeg)) := by
        simp (decide := true) only [mTk, hto, if_false, c1', if_true]; rfl
      have e2 : cEv stp arg sz va (f + d + 1) (pos + x) (o + cHt C p x) nu = cEv stp arg sz va (f + d) (pos + (x + 1)) (o + (cHt C p x + 1)) (upd nu (o + cHt C p x) (va (arg (pos + x)).toNatClampNeg)) := by
        simp (decide := true) only [cEv, hsz2, if_false, s1', if_true]; rfl
      rw [e1, e2]
      refine ⟨key.1, fun h => ?_⟩
      obtain ⟨nu', a1, a2, a3⟩ := key.2 h
      refine ⟨nu', a1, a2, fun i hi => ?_⟩
      rw [a3 i hi]
      unfold upd
      rw [if_neg (by omega)]
    · obtain ⟨l1, l2⟩ := lft kh
      have ht2 : ¬ o + cHt C p x < 2 := by omega
      have fin : ∀ v : Int32, (C (p + x)).1 = (C (p + x)).1 →
          mTk cd ci va (cb + q) (d + 1) (cb + p + x) (cHt C p x) pi = mTk cd ci va (cb + q) d (cb + p + x + 1) (cHt C p x - 1) (upd pi (cHt C p x - 2) v) →
          cEv stp arg sz va (f + d + 1) (pos + x) (o + cHt C p x) nu = cEv stp arg sz va (f + d) (pos + x + 1) (o + cHt C p x - 1) (upd nu (o + cHt C p x - 2) v) →
          ((mTk cd ci va (cb + q) (d + 1) (cb + p + x) (cHt C p x) pi).1 = true → (cEv stp arg sz va (f + d + 1) (pos + x) (o + cHt C p x) nu).1 = 0) ∧
          ((mTk cd ci va (cb + q) (d + 1) (cb + p + x) (cHt C p x) pi).1 = false → ∃ nu', cEv stp arg sz va (f + d + 1) (pos + x) (o + cHt C p x) nu = cEv stp arg sz va f (pos + (q - p)) (o + 1) nu' ∧ nu' o = (mTk cd ci va (cb + q) (d + 1) (cb + p + x) (cHt C p x) pi).2.1 ∧ ∀ i, i < o → nu' i = nu i) := by
        intro v _ e1 e2
        rw [hht, if_neg (by omega)] at ihx
        have key := ihx (upd nu (o + cHt C p x - 2) v) (upd pi (cHt C p x - 2) v) (by omega) (bin _ v rfl k2 kh rfl)
        rw [e1, e2, show o + cHt C p x - 1 = o + (cHt C p x - 1) by omega]
        refine ⟨key.1, fun h => ?_⟩
        obtain ⟨nu', a1, a2, a3⟩ := key.2 h
        refine ⟨nu', a1, a2, fun i hi => ?_⟩
        rw [a3 i hi]
        unfold upd
        rw [if_neg (by omega)]
      have hz : (C (p + x)).1 = 2 ∨ (C (p + x)).1 = 3 ∨ (C (p + x)).1 = 4 ∨ (C (p + x)).1 = 5 := by omega
      rcases hz with hz | hz | hz | hz
      · rw [en hz (by decide)] at s1
        have s1' : stp (pos + x) = 43 := s1
        have c1' : cd (cb + p + x) = 2 := by rw [c1, hz]; rfl
        apply fin (pi (cHt C p x - 2) + pi (cHt C p x - 1)) rfl
        · simp (decide := true) only [mTk, hto, if_false, c1', if_true]
        · simp (decide := true) only [cEv, hsz2, if_false, s1', if_true, ht2, l1, l2]
      · rw [en hz (by decide)] at s1
        have s1' : stp (pos + x) = 45 := s1
        have c1' : cd (cb + p + x) = 3 := by rw [c1, hz]; rfl
        apply fin (pi (cHt C p x - 2) - pi (cHt C p x - 1)) rfl
        · simp (decide := true) only [mTk, hto, if_false, c1', if_true]
        · simp (decide := true) only [cEv, hsz2, if_false, s1', if_true, ht2, l1, l2]
      · rw [en hz (by decide)] at s1
        have s1' : stp (pos + x) = 42 := s1
        have c1' : cd (cb + p + x) = 4 := by rw [c1, hz]; rfl
        apply fin (pi (cHt C p x - 2) * pi (cHt C p x - 1)) rfl
        · simp (decide := true) only [mTk, hto, if_false, c1', if_true]
        · simp (decide := true) only [cEv, hsz2, if_false, s1', if_true, ht2, l1, l2]
      · rw [en hz (by decide)] at s1
        have s1' : stp (pos + x) = 47 := s1
        have c1' : cd (cb + p + x) = 5 := by rw [c1, hz]; rfl
        by_cases h0 : pi (cHt C p x - 1) = 0
        · refine ⟨fun _ => ?_, fun h => ?_⟩
          · simp (decide := true) only [cEv, hsz2, if_false, s1', if_true, ht2, l2, h0]
          · simp (decide := true) only [mTk, hto, if_false, c1', if_true, h0] at h
        · apply fin (pi (cHt C p x - 2) / pi (cHt C p x - 1)) rfl
          · simp (decide := true) only [mTk, hto, if_false, c1', if_true, h0]
          · simp (decide := true) only [cEv, hsz2, if_false, s1', if_true, ht2, l1, l2, h0]
/-- the reference's rows hold a law -/
def mReg (im : gm_I) (s : LW) (bb cb : Nat) : Prop := (∀ b, b < s.nb → im 106 (bb + b) = nI (s.hs b) ∧ (s.hs b = 1 → im 107 (bb + b) = nI (cb + s.t0 b) ∧ im 108 (bb + b) = nI (cb + s.t1 b)) ∧ im 109 (bb + b) = nI (cb + s.t2 b) ∧ im 110 (bb + b) = nI (cb + s.t3 b)) ∧ ∀ x, x < s.cn → im 111 (cb + x) = nI (s.C x).1 ∧ im 112 (cb + x) = nI (s.C x).2
/-- the class's -/
def cReg (im : gm_I) (s : LW) (st : Nat) : Prop := ∀ x, x < s.sn → im 16 (st + x) = nI (s.S x).1 ∧ im 17 (st + x) = nI (if (s.S x).1 = 60 then st + (s.S x).2 else (s.S x).2)
theorem enS_60 (c : Nat × Nat) (h : c.1 ≤ 5) : ¬ (enS c).1 = 60 := by
  unfold enS
  split
  · omega
  · split; decide; split; decide; split <;> decide
theorem sgH_C5 {C : Nat → Nat × Nat} {p q h : Nat} (k : sgH C p q h) {x : Nat} (hx : x < q - p) : (C (p + x)).1 ≤ 5 := by
  have := k.2.1 x hx
  unfold cCd at this
  omega
theorem law_ev {im : gm_I} {s : LW} {x bb cb st sz : Nat} {va : Nat → Int32} (hl : lfP s x) (hm : mReg im s bb cb) (hc : cReg im s st) (hsz : st + s.sn ≤ sz) (h406 : sz ≤ 406) (hcb : cb + s.cn ≤ 840) : ∀ (m b : Nat) (f : Nat) (nu : Nat → Int32), b + m + 1 = s.nb → s.sn ≤ s.u b + f → (cEv (im 16) (im 17) sz va f (st + s.u b) 0 nu).1 = mBr im va (m + 1) (bb + b) := by
  obtain ⟨M, hM, hT, hL, hcn, hsn, hnb, hv0, hu0, -⟩ := hl
  -- a stretch as both hold it
  have seg : ∀ (p q u o f : Nat) (nu : Nat → Int32), sgH s.C p q 1 → q ≤ s.cn → u + (q - p) ≤ s.sn → sgS s u p (q - p) →
      ((mT im va (cb + p) (cb + q)).1 = true → (cEv (im 16) (im 17) sz va (f + (q - p)) (st + u) o nu).1 = 0) ∧
      ((mT im va (cb + p) (cb + q)).1 = false → ∃ nu', cEv (im 16) (im 17) sz va (f + (q - p)) (st + u) o nu = cEv (im 16) (im 17) sz va f (st + (u + (q - p))) (o + 1) nu' ∧ nu' o = (mT im va (cb + p) (cb + q)).2 ∧ ∀ i, i < o → nu' i = nu i) := by
    intro p q u o f nu h1 h2 h3 h4
    have hlt := sgH_lt h1
    have := seg_ev (stp := im 16) (arg := im 17) (cd := im 111) (ci := im 112) (va := va) (sz := sz) (cb := cb) (pos := st + u) (o := o) h1 (fun y hy => by rw [Nat.add_assoc]; exact hm.2 _ (by omega)) (fun y hy => by
      have h5 := hc (u + y) (by omega)
      have h6 := h4 y hy
      rw [← Nat.add_assoc, h6, if_neg (enS_60 _ (sgH_C5 h1 hy))] at h5
      exact h5) (by omega) f (q - p) 0 nu (fun _ => 0) (by omega) (fun i hi => absurd hi (Nat.not_lt_zero _))
    unfold mT
    rw [show cb + q - (cb + p) = q - p by omega, ← Nat.add_assoc]
    exact this
  intro m
  induction m with
  | zero =>
    intro b f nu hb hf
    have e : b = M := by omega
    subst e
    obtain ⟨l0, l1, l2, l3, l4, l5, l6⟩ := hL
    obtain ⟨g0, -, g2, g3⟩ := hm.1 b (by omega)
    have hlt := sgH_lt l1
    rw [l0] at g0
    have g0' : im 106 (bb + b) = 0 := g0
    have q2 : (nI (cb + s.t2 b)).toNatClampNeg = cb + s.t2 b := nI_clamp (by omega)
    have q3 : (nI (cb + s.t3 b)).toNatClampNeg = cb + s.t3 b := nI_clamp (by omega)
    obtain ⟨F, rfl⟩ : ∃ F, f = (F + 1) + (s.t3 b - s.t2 b) := ⟨f - (s.t3 b - s.t2 b) - 1, by omega⟩
    have key := seg (s.t2 b) (s.t3 b) (s.u b) 0 (F + 1) nu l1 (by omega) (by omega) (by rw [l3]; exact l4)
    simp only [mBr, g0', if_true, g2, g3, q2, q3]
    cases hb1 : (mT im va (cb + s.t2 b) (cb + s.t3 b)).1 with
    | true => rw [if_pos rfl]; exact key.1 hb1
    | false =>
      obtain ⟨nu', a1, a2, -⟩ := key.2 hb1
      rw [if_neg (by decide), a1, ← a2]
      have h5 := hc (s.u b + (s.t3 b - s.v b)) (by omega)
      rw [l5] at h5
      have h5' : im 16 (st + (s.u b + (s.t3 b - s.t2 b))) = 2 := by rw [l3]; exact h5.1
      have hz : ¬ sz ≤ st + (s.u b + (s.t3 b - s.t2 b)) := by omega
      simp (decide := true) only [cEv, hz, if_false, h5', if_true]
  | succ m ih =>
    intro b f nu hb hf
    obtain ⟨k0, k1, k2, k3, k4, k5, k6, k7, k8, k9, k10, k11, k12⟩ := hT b (by omega)
    obtain ⟨g0, g1, g2, g3⟩ := hm.1 b (by omega)
    obtain ⟨g1, g1'⟩ := g1 k0
    have l1 := sgH_lt k2
    have l2 := sgH_lt k3
    have l3 := sgH_lt k4
    rw [k0] at g0
    have g0' : ¬ im 106 (bb + b) = 0 := by rw [g0]; decide
    have q0 : (nI (cb + s.t0 b)).toNatClampNeg = cb + s.t0 b := nI_clamp (by omega)
    have q1 : (nI (cb + s.t1 b)).toNatClampNeg = cb + s.t1 b := nI_clamp (by omega)
    have q2 : (nI (cb + s.t2 b)).toNatClampNeg = cb + s.t2 b := nI_clamp (by omega)
    have q3 : (nI (cb + s.t3 b)).toNatClampNeg = cb + s.t3 b := nI_clamp (by omega)
    have hu : s.u (b + 1) ≤ s.sn := by omega
    obtain ⟨F, rfl⟩ : ∃ F, f = ((F + 1) + (s.t2 b - s.t1 b)) + (s.t1 b - s.t0 b) := ⟨f - (s.t2 b - s.t0 b) - 1, by omega⟩
    have e1 := seg (s.t0 b) (s.t1 b) (s.u b) 0 ((F + 1) + (s.t2 b - s.t1 b)) nu k2 (by omega) (by omega) (fun y hy => by rw [k1]; exact k7 y (by omega))
    rw [show mBr im va (m + 1 + 1) (bb + b) = if (mT im va (cb + s.t0 b) (cb + s.t1 b)).1 = true ∨ (mT im va (cb + s.t1 b) (cb + s.t2 b)).1 = true then 0 else if (mT im va (cb + s.t0 b) (cb + s.t1 b)).2 < (mT im va (cb + s.t1 b) (cb + s.t2 b)).2 then (if (mT im va (cb + s.t2 b) (cb + s.t3 b)).1 = true then 0 else (mT im va (cb + s.t2 b) (cb + s.t3 b)).2) else mBr im va (m + 1) (bb + (b + 1)) by
      rw [mBr]
      simp only [g0', if_false, g1, g1', g2, g3, q0, q1, q2, q3, Nat.add_assoc]]
    cases hb1 : (mT im va (cb + s.t0 b) (cb + s.t1 b)).1 with
    | true => rw [if_pos (Or.inl rfl)]; exact e1.1 hb1
    | false =>
      obtain ⟨nu1, a1, a2, -⟩ := e1.2 hb1
      rw [a1]
      have e2 := seg (s.t1 b) (s.t2 b) (s.u b + (s.t1 b - s.t0 b)) 1 (F + 1) nu1 k3 (by omega) (by omega) (fun y hy => by
        have := k7 (s.t1 b - s.t0 b + y) (by omega)
        rw [← Nat.add_assoc, ← k1, show s.t0 b + (s.t1 b - s.t0 b + y) = s.t1 b + y by omega] at this
        exact this)
      cases hb2 : (mT im va (cb + s.t1 b) (cb + s.t2 b)).1 with
      | true => rw [if_pos (Or.inr rfl)]; exact e2.1 hb2
      | false =>
        rw [if_neg (by simp)]
        obtain ⟨nu2, c1, c2, c3⟩ := e2.2 hb2
        rw [c1]
        have c3' := c3 0 (by decide)
        rw [a2] at c3'
        have hp : s.u b + (s.t1 b - s.t0 b) + (s.t2 b - s.t1 b) = s.u b + (s.t2 b - s.v b) := by omega
        rw [hp]
        have h8 := hc (s.u b + (s.t2 b - s.v b)) (by omega)
        rw [k8] at h8
        obtain ⟨h81, h82⟩ := h8
        rw [if_pos rfl] at h82
        have h81' : im 16 (st + (s.u b + (s.t2 b - s.v b))) = 60 := h81
        have hz : ¬ sz ≤ st + (s.u b + (s.t2 b - s.v b)) := by omega
        have hcl : (nI (st + s.u (b + 1))).toNatClampNeg = st + s.u (b + 1) := nI_clamp (by omega)
        have estep : cEv (im 16) (im 17) sz va (F + 1) (st + (s.u b + (s.t2 b - s.v b))) (1 + 1) nu2 = cEv (im 16) (im 17) sz va F ((if nu2 0 < nu2 1 then st + (s.u b + (s.t2 b - s.v b)) else st + s.u (b + 1) - 1) + 1) 0 nu2 := by
          have hj : st + (s.u b + (s.t2 b - s.v b)) < st + s.u (b + 1) - 1 := by omega
          simp (decide := true) only [cEv, hz, if_false, h81', h82, hcl, hj, if_true]
        rw [estep, c3', c2]
        by_cases hlt : (mT im va (cb + s.t0 b) (cb + s.t1 b)).2 < (mT im va (cb + s.t1 b) (cb + s.t2 b)).2
        · rw [if_pos hlt, if_pos hlt]
          obtain ⟨G, rfl⟩ : ∃ G, F = (G + 1) + (s.t3 b - s.t2 b) := ⟨F - (s.t3 b - s.t2 b) - 1, by omega⟩
          have e3 := seg (s.t2 b) (s.t3 b) (s.u b + (s.t2 b - s.v b) + 1) 0 (G + 1) nu2 k4 (by omega) (by omega) k9
          rw [show st + (s.u b + (s.t2 b - s.v b)) + 1 = st + (s.u b + (s.t2 b - s.v b) + 1) by omega]
          cases hb3 : (mT im va (cb + s.t2 b) (cb + s.t3 b)).1 with
          | true => rw [if_pos rfl]; exact e3.1 hb3
          | false =>
            obtain ⟨nu3, d1, d2, -⟩ := e3.2 hb3
            rw [if_neg (by decide), d1, ← d2]
            have h10 := (hc (s.u b + (s.t3 b - s.v b) + 1) (by omega)).1
            rw [k10] at h10
            have e10 : s.u b + (s.t2 b - s.v b) + 1 + (s.t3 b - s.t2 b) = s.u b + (s.t3 b - s.v b) + 1 := by omega
            rw [e10]
            have h10' : im 16 (st + (s.u b + (s.t3 b - s.v b) + 1)) = 2 := h10
            have hz3 : ¬ sz ≤ st + (s.u b + (s.t3 b - s.v b) + 1) := by omega
            simp (decide := true) only [cEv, hz3, if_false, h10', if_true]
        · rw [if_neg hlt, if_neg hlt]
          rw [show st + s.u (b + 1) - 1 + 1 = st + s.u (b + 1) by omega]
          exact ih (b + 1) F nu2 (by omega) (by omega)
/-- the reference's law is in order -/
theorem sgH_wf {cd ci : Nat → Int32} {C : Nat → Nat × Nat} {p q cb : Nat} (hH : sgH C p q 1) (hC : ∀ x, x < q - p → cd (cb + p + x) = nI (C (p + x)).1 ∧ ci (cb + p + x) = nI (C (p + x)).2) : ∀ (d x : Nat), x + d = q - p → mWf cd ci (cb + q) d (cb + p + x) (cHt C p x) := by
  intro d
  induction d with
  | zero => intro x _; trivial
  | succ d ih =>
    intro x hx
    obtain ⟨c1, c2⟩ := hC x (by omega)
    have hcd := hH.2.1 x (by omega)
    have ihx := ih (x + 1) (by omega)
    have hht : cHt C p (x + 1) = if (C (p + x)).1 < 2 then cHt C p x + 1 else cHt C p x - 1 := rfl
    rw [hht] at ihx
    unfold cCd at hcd
    refine Or.inr ?_
    rcases hcd with ⟨k0, -⟩ | ⟨k1, k9⟩ | ⟨k2, k5, -, kh⟩
    · rw [k0, if_pos (by decide)] at ihx
      rw [k0] at c1
      exact Or.inl ⟨c1, ihx⟩
    · rw [k1, if_pos (by decide)] at ihx
      rw [k1] at c1
      exact Or.inr (Or.inl ⟨c1, ⟨_, k9, c2⟩, ihx⟩)
    · rw [if_neg (by omega)] at ihx
      refine Or.inr (Or.inr ⟨?_, kh, ihx⟩)
      have hz : (C (p + x)).1 = 2 ∨ (C (p + x)).1 = 3 ∨ (C (p + x)).1 = 4 ∨ (C (p + x)).1 = 5 := by omega
      rcases hz with hz | hz | hz | hz <;> rw [hz] at c1
      · exact Or.inl c1
      · exact Or.inr (Or.inl c1)
      · exact Or.inr (Or.inr (Or.inl c1))
      · exact Or.inr (Or.inr (Or.inr c1))
theorem law_ok {im : gm_I} {s : LW} {x bb cb : Nat} (hl : lfP s x) (hx : x ≤ 400) (hm : mReg im s bb cb) (hcb : cb + s.cn ≤ 840) : ∀ c, bb ≤ c → c < bb + s.nb → mBrOk im c := by
  obtain ⟨M, hM, hT, hL, hcn, hsn, hnb, hv0, hu0, -⟩ := hl
  have seg : ∀ p q, sgH s.C p q 1 → q ≤ s.cn → mSeg im (cb + p) (cb + q) := by
    intro p q h1 h2
    have hlt := sgH_lt h1
    refine ⟨by omega, by omega, by omega, ?_⟩
    rw [show cb + q - (cb + p) = q - p by omega]
    exact sgH_wf h1 (fun y hy => by rw [Nat.add_assoc]; exact hm.2 _ (by omega)) (q - p) 0 (by omega)
  intro c h1 h2
  obtain ⟨b, rfl⟩ : ∃ b, c = bb + b := ⟨c - bb, by omega⟩
  obtain ⟨g0, g1, g2, g3⟩ := hm.1 b (by omega)
  by_cases hb : b = M
  · subst hb
    obtain ⟨l0, l1, l2, l3, l4, l5, l6⟩ := hL
    rw [l0] at g0
    exact ⟨0, 0, cb + s.t2 b, cb + s.t3 b, g2, g3, seg _ _ l1 l2, Or.inl g0⟩
  · obtain ⟨k0, k1, k2, k3, k4, k5, k6, k7, k8, k9, k10, k11, k12⟩ := hT b (by omega)
    have l1 := sgH_lt k2
    have l2 := sgH_lt k3
    have l3 := sgH_lt k4
    obtain ⟨g1, g1'⟩ := g1 k0
    rw [k0] at g0
    exact ⟨cb + s.t0 b, cb + s.t1 b, cb + s.t2 b, cb + s.t3 b, g2, g3, seg _ _ k4 k5, Or.inr ⟨g0, g1, g1', seg _ _ k2 (by omega), seg _ _ k3 (by omega)⟩⟩
