/-! the half that stands is left alone -/
theorem mTk_cg {cd ci cd' ci' va : Nat → Int32} {to : Nat} : ∀ (f c top : Nat) (pi : Nat → Int32), (∀ x, c ≤ x → x < to → cd' x = cd x ∧ ci' x = ci x) → mTk cd' ci' va to f c top pi = mTk cd ci va to f c top pi := by
  intro f
  induction f with
  | zero => intro c top pi _; rfl
  | succ f ih =>
    intro c top pi h
    unfold mTk
    by_cases hc : to ≤ c
    · rw [if_pos hc, if_pos hc]
    · obtain ⟨h1, h2⟩ := h c (Nat.le_refl _) (by omega)
      have h' : ∀ x, c + 1 ≤ x → x < to → cd' x = cd x ∧ ci' x = ci x := fun x a b => h x (by omega) b
      rw [if_neg hc, if_neg hc, h1, h2]
      simp only [ih _ _ _ h']
theorem mWf_cg {cd ci cd' ci' : Nat → Int32} {to : Nat} : ∀ (f c top : Nat), (∀ x, c ≤ x → x < to → cd' x = cd x ∧ ci' x = ci x) → mWf cd ci to f c top → mWf cd' ci' to f c top := by
  intro f
  induction f with
  | zero => intro c top _ _; exact trivial
  | succ f ih =>
    intro c top h k
    unfold mWf at k ⊢
    by_cases hc : to ≤ c
    · exact Or.inl hc
    · obtain ⟨h1, h2⟩ := h c (Nat.le_refl _) (by omega)
      have h' : ∀ x, c + 1 ≤ x → x < to → cd' x = cd x ∧ ci' x = ci x := fun x a b => h x (by omega) b
      rw [h1, h2]
      rcases k with k | k | k | k
      · exact Or.inl k
      · exact Or.inr (Or.inl ⟨k.1, ih _ _ h' k.2⟩)
      · exact Or.inr (Or.inr (Or.inl ⟨k.1, k.2.1, ih _ _ h' k.2.2⟩))
      · exact Or.inr (Or.inr (Or.inr ⟨k.1, k.2.1, ih _ _ h' k.2.2⟩))
section
variable {B im : gm_I} {l : Nat}
/-- what one half of the laws holds is as it was -/
def hfE (B im : gm_I) (l : Nat) : Prop := (∀ q j, (q = 104 ∨ q = 105) → 3 * l ≤ j → j < 3 * l + 3 → im q j = B q j) ∧ (∀ q j, 106 ≤ q → q ≤ 110 → 130 * l ≤ j → j < 130 * l + 130 → im q j = B q j) ∧ (∀ q j, (q = 111 ∨ q = 112) → 420 * l ≤ j → j < 420 * l + 420 → im q j = B q j)
theorem hf_T (h : hfE B im l) {va : Nat → Int32} {fr to : Nat} (h1 : 420 * l ≤ fr) (h2 : to ≤ 420 * l + 420) : mT im va fr to = mT B va fr to := by
  unfold mT
  rw [mTk_cg (cd := B 111) (ci := B 112) (cd' := im 111) (ci' := im 112) (va := va) (to := to) (to - fr) fr 0 (fun _ => 0) (fun x a b => ⟨h.2.2 111 x (Or.inl rfl) (by omega) (by omega), h.2.2 112 x (Or.inr rfl) (by omega) (by omega)⟩)]
theorem hf_seg (h : hfE B im l) {fr to : Nat} (h1 : 420 * l ≤ fr) (h2 : to ≤ 420 * l + 420) (k : mSeg B fr to) : mSeg im fr to := by
  obtain ⟨k1, k2, k3, k4⟩ := k
  exact ⟨k1, k2, k3, mWf_cg _ _ _ (fun x a b => ⟨h.2.2 111 x (Or.inl rfl) (by omega) (by omega), h.2.2 112 x (Or.inr rfl) (by omega) (by omega)⟩) k4⟩
/-- a branch of this half -/
def hfB (B : gm_I) (l c : Nat) : Prop := (130 * l ≤ c ∧ c < 130 * l + 130) ∧ ∃ q0 q1 q2 q3, B 109 c = nI q2 ∧ B 110 c = nI q3 ∧ mSeg B q2 q3 ∧ 420 * l ≤ q2 ∧ q3 ≤ 420 * l + 420 ∧ (B 106 c = 0 ∨ (B 106 c = 1 ∧ B 107 c = nI q0 ∧ B 108 c = nI q1 ∧ mSeg B q0 q1 ∧ mSeg B q1 q2 ∧ 420 * l ≤ q0))
theorem hf_nf (hl : l < 2) {c : Nat} (h1 : 130 * l ≤ c ∧ c < 130 * l + 130) (h2 : mBrOk B c) (h3 : ∃ p0 p2 p3, B 109 c = nI p2 ∧ B 110 c = nI p3 ∧ 420 * l ≤ p2 ∧ p2 ≤ p3 ∧ p3 ≤ 420 * l + 420 ∧ (B 106 c = 0 ∨ (B 107 c = nI p0 ∧ 420 * l ≤ p0 ∧ p0 ≤ p2))) : hfB B l c := by
  obtain ⟨q0, q1, q2, q3, m1, m2, m3, m4⟩ := h2
  obtain ⟨p0, p2, p3, n1, n2, n3, n4, n5, n6⟩ := h3
  have s1 := m3.1
  have s2 := m3.2.1
  have e2 : q2 = p2 := nI_inj (by omega) (by omega) (m1.symm.trans n1)
  have e3 : q3 = p3 := nI_inj (by omega) (by omega) (m2.symm.trans n2)
  refine ⟨h1, q0, q1, q2, q3, m1, m2, m3, by omega, by omega, ?_⟩
  rcases m4 with m4 | ⟨a1, a2, a3, a4, a5⟩
  · exact Or.inl m4
  · refine Or.inr ⟨a1, a2, a3, a4, a5, ?_⟩
    rcases n6 with n6 | ⟨b1, b2, b3⟩
    · rw [n6] at a1; exact absurd a1 (by decide)
    · have t1 := a4.1
      have t2 := a4.2.1
      have e0 : q0 = p0 := nI_inj (by omega) (by omega) (a2.symm.trans b1)
      omega
theorem hf_ok (h : hfE B im l) {c : Nat} (k : hfB B l c) : mBrOk im c := by
  obtain ⟨⟨k1, k2⟩, q0, q1, q2, q3, m1, m2, m3, m4, m5, m6⟩ := k
  have r : ∀ q, 106 ≤ q → q ≤ 110 → im q c = B q c := fun q a b => h.2.1 q c a b k1 k2
  have s1 := m3.1
  refine ⟨q0, q1, q2, q3, by rw [r 109 (by decide) (by decide)]; exact m1, by rw [r 110 (by decide) (by decide)]; exact m2, hf_seg h m4 m5 m3, ?_⟩
  rw [r 106 (by decide) (by decide), r 107 (by decide) (by decide), r 108 (by decide) (by decide)]
  rcases m6 with m6 | ⟨a1, a2, a3, a4, a5, a6⟩
  · exact Or.inl m6
  · have t1 := a4.1
    have t2 := a5.1
    exact Or.inr ⟨a1, a2, a3, hf_seg h a6 (by omega) a4, hf_seg h (by omega) (by omega) a5⟩
theorem hf_br (hl : l < 2) (h : hfE B im l) {va : Nat → Int32} : ∀ (f b : Nat), (∀ c, b ≤ c → c < b + f → hfB B l c) → mBr im va f b = mBr B va f b := by
  intro f
  induction f with
  | zero => intro b _; rfl
  | succ f ih =>
    intro b hb
    obtain ⟨⟨k1, k2⟩, q0, q1, q2, q3, m1, m2, m3, m4, m5, m6⟩ := hb b (Nat.le_refl _) (by omega)
    have r : ∀ q, 106 ≤ q → q ≤ 110 → im q b = B q b := fun q a c => h.2.1 q b a c k1 k2
    have hr := ih (b + 1) (fun c a c2 => hb c (by omega) (by omega))
    have s1 := m3.1
    have c2 : (nI q2).toNatClampNeg = q2 := nI_clamp (by omega)
    have c3 : (nI q3).toNatClampNeg = q3 := nI_clamp (by omega)
    have T3 : mT im va q2 q3 = mT B va q2 q3 := hf_T h m4 m5
    unfold mBr
    rw [r 106 (by decide) (by decide), r 107 (by decide) (by decide), r 108 (by decide) (by decide), r 109 (by decide) (by decide), r 110 (by decide) (by decide), m1, m2, c2, c3, T3]
    rcases m6 with m6 | ⟨a1, a2, a3, a4, a5, a6⟩
    · rw [if_pos m6, if_pos m6]
    · have t1 := a4.1
      have t2 := a5.1
      have c0 : (nI q0).toNatClampNeg = q0 := nI_clamp (by omega)
      have c1 : (nI q1).toNatClampNeg = q1 := nI_clamp (by omega)
      have T1 : mT im va q0 q1 = mT B va q0 q1 := hf_T h a6 (by omega)
      have T2 : mT im va q1 q2 = mT B va q1 q2 := hf_T h (by omega) (by omega)
      rw [a2, a3, c0, c1, T1, T2, hr]
theorem hf_law (hl : l < 2) (h : hfE B im l) (hm : mLaws B l) (hh : mHalf B l) {k : Nat} (hk : k < 3) : mLawOk im (3 * l + k) ∧ ∀ plain va, mLaw im (3 * l + k) plain va = mLaw B (3 * l + k) plain va := by
  have hmk : mLawOk B (3 * l + k) := by
    rcases (by omega : k = 0 ∨ k = 1 ∨ k = 2) with rfl | rfl | rfl
    · exact hm.1
    · exact hm.2.1
    · exact hm.2.2
  obtain ⟨b0, b1, e1, e2, e3, e4⟩ := hh k hk
  obtain ⟨c0, c1, c2, c3, f1, f2, f3⟩ := hmk
  have d0 : c0 = b0 := nI_inj (by omega) (by omega) (f1.symm.trans e1)
  have d1 : c1 = b1 := nI_inj (by omega) (by omega) (f2.symm.trans e2)
  subst d0
  subst d1
  have g1 : im 104 (3 * l + k) = B 104 (3 * l + k) := h.1 104 _ (Or.inl rfl) (by omega) (by omega)
  have g2 : im 105 (3 * l + k) = B 105 (3 * l + k) := h.1 105 _ (Or.inr rfl) (by omega) (by omega)
  have hB : ∀ c, c0 ≤ c → c < c1 → hfB B l c := fun c x y => hf_nf hl (by omega) (f3 c x y) (e4 c x y)
  refine ⟨⟨c0, c1, c2, c3, g1.trans f1, g2.trans f2, fun c x y => hf_ok h (hB c x y)⟩, fun plain va => ?_⟩
  unfold mLaw mLw
  rw [g1, g2, f1, f2, nI_clamp (by omega), nI_clamp (by omega), hf_br hl h (c1 - c0) c0 (fun c x y => hB c x (by omega))]
theorem hf_half (h : hfE B im l) (hh : mHalf B l) (hl : l < 2) : mHalf im l := by
  intro k hk
  obtain ⟨b0, b1, e1, e2, e3, e4⟩ := hh k hk
  refine ⟨b0, b1, (h.1 104 _ (Or.inl rfl) (by omega) (by omega)).trans e1, (h.1 105 _ (Or.inr rfl) (by omega) (by omega)).trans e2, e3, fun c x y => ?_⟩
  have hc : 130 * l ≤ c ∧ c < 130 * l + 130 := by omega
  have r : ∀ q, 106 ≤ q → q ≤ 110 → im q c = B q c := fun q a b => h.2.1 q c a b hc.1 hc.2
  rw [r 106 (by decide) (by decide), r 107 (by decide) (by decide), r 109 (by decide) (by decide), r 110 (by decide) (by decide)]
  exact e4 c x y
end
theorem sW_l {l : Nat} (hl : l < 2) {w j : Nat} (h1 : l * w ≤ j) (h2 : j < l * w + w) : ¬ ((1 - l) * w ≤ j ∧ j < (1 - l) * w + w) := by
  rcases (by omega : l = 0 ∨ l = 1) with rfl | rfl
  · intro h; omega
  · intro h; omega
theorem sW_v : (sWd 93 = 1 ∧ sWd 94 = 1 ∧ sWd 99 = 1 ∧ sWd 101 = 1 ∧ sWd 103 = 1) ∧ (sWd 95 = 7 ∧ sWd 96 = 7 ∧ sWd 97 = 7 ∧ sWd 98 = 7) ∧ sWd 100 = 15 ∧ sWd 102 = 8 ∧ sWd 104 = 3 ∧ sWd 105 = 3 ∧ (∀ q, 106 ≤ q → q ≤ 110 → sWd q = 130) ∧ sWd 111 = 420 ∧ sWd 112 = 420 := by
  refine ⟨⟨rfl, rfl, rfl, rfl, rfl⟩, ⟨rfl, rfl, rfl, rfl⟩, rfl, rfl, rfl, rfl, fun q a b => ?_, rfl, rfl⟩
  rcases (by omega : q = 106 ∨ q = 107 ∨ q = 108 ∨ q = 109 ∨ q = 110) with rfl | rfl | rfl | rfl | rfl <;> rfl
theorem mR.hf {B im : gm_I} {l : Nat} (hl : l < 2) (h : mR (1 - l) B im) : hfE B im l := by
  refine ⟨fun q j hq a b => ?_, fun q j x y a b => ?_, fun q j hq a b => ?_⟩
  · have e : sWd q = 3 := by rcases hq with rfl | rfl <;> rfl
    exact h.2.2 q j (by omega) (by omega) (sW_l hl (by rw [e]; omega) (by rw [e]; omega))
  · have e : sWd q = 130 := sW_v.2.2.2.2.2.2.1 q x y
    exact h.2.2 q j (by omega) (by omega) (sW_l hl (by rw [e]; omega) (by rw [e]; omega))
  · have e : sWd q = 420 := by rcases hq with rfl | rfl <;> rfl
    exact h.2.2 q j (by omega) (by omega) (sW_l hl (by rw [e]; omega) (by rw [e]; omega))
/-- what stood is as it was, where only the other half was written -/
theorem iRoll_half {B im : gm_I} {l nm nk nj ns : Nat} (hq : ∀ q, 11 ≤ q → q ≤ 18 → im q = B q) (hr : mR (1 - l) B im) (h : iRoll B l nm nk nj ns) : iRoll im l nm nk nj ns := by
  obtain ⟨h1, h2, h3, h4, h5, h6, h7, h8, h9⟩ := h
  have hl := h1.1
  have hf := hr.hf hl
  have h18 : im 84 18 = B 84 18 := hr.2.1 18 (by decide)
  have g : ∀ q j, 93 ≤ q → q ≤ 112 → l * sWd q ≤ j → j < l * sWd q + sWd q → im q j = B q j := fun q j a b x y => hr.2.2 q j a b (sW_l hl x y)
  have g1 : ∀ q, 93 ≤ q → q ≤ 112 → sWd q = 1 → im q l = B q l := fun q a b e => g q l a b (by rw [e]; omega) (by rw [e]; omega)
  have g7 : ∀ q a, 93 ≤ q → q ≤ 112 → sWd q = 7 → a < 7 → im q (7 * l + a) = B q (7 * l + a) := fun q a x y e ha => g q _ x y (by rw [e]; omega) (by rw [e]; omega)
  have hk : ∀ k, k < 3 → mLawOk im (3 * l + k) := fun k hk => (hf_law hl hf h8.1 h8.2 hk).1
  refine ⟨h1, ?_, ?_, fun a ha => ?_, fun k s hk hs => ?_, fun j hj => ?_, cLawsOk_of h7 (hq 15 (by decide) (by decide)) (hq 16 (by decide) (by decide)) (hq 17 (by decide) (by decide)) (hq 18 (by decide) (by decide)), ⟨⟨hk 0 (by decide), hk 1 (by decide), hk 2 (by decide)⟩, hf_half hf h8.2 hl⟩, fun k va hk => ?_⟩
  · rw [h18, hq 11 (by decide) (by decide)]; exact h2
  · rw [g1 93 (by decide) (by decide) rfl, g1 94 (by decide) (by decide) rfl, g1 99 (by decide) (by decide) rfl, g1 101 (by decide) (by decide) rfl, g1 103 (by decide) (by decide) rfl, hq 11 (by decide) (by decide)]; exact h3
  · rw [g7 95 a (by decide) (by decide) rfl (by omega), g7 96 a (by decide) (by decide) rfl (by omega), g7 97 a (by decide) (by decide) rfl (by omega), g7 98 a (by decide) (by decide) rfl (by omega), hq 12 (by decide) (by decide)]; exact h4 a ha
  · have e : sWd 100 = 15 := rfl
    rw [g 100 _ (by decide) (by decide) (by rw [e]; omega) (by rw [e]; omega), hq 13 (by decide) (by decide)]; exact h5 k s hk hs
  · have e : sWd 102 = 8 := rfl
    rw [g 102 _ (by decide) (by decide) (by rw [e]; omega) (by rw [e]; omega), hq 14 (by decide) (by decide)]; exact h6 j hj
  · rw [cLaw_eq h7 (hq 15 (by decide) (by decide)) (hq 16 (by decide) (by decide)) (hq 17 (by decide) (by decide)) (hq 18 (by decide) (by decide)) (fun _ _ => rfl)]
    unfold mLawX
    rw [(hf_law hl hf h8.1 h8.2 hk).2]
    exact h9 k va hk
