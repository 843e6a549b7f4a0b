/-! the law that is being read keeps its order -/
theorem brT_cg {s s' : LW} {b : Nat} (k : brT s b) (hC : ∀ x, x < s.cn → s'.C x = s.C x) (hcn : s.cn ≤ s'.cn) (hS : ∀ x, x < s.u (b + 1) → s'.S x = s.S x) (hsn : s.sn ≤ s'.sn) (h0 : s'.hs b = s.hs b) (h1 : s'.t0 b = s.t0 b) (h2 : s'.t1 b = s.t1 b) (h3 : s'.t2 b = s.t2 b) (h4 : s'.t3 b = s.t3 b) (h5 : s'.u b = s.u b) (h6 : s'.u (b + 1) = s.u (b + 1)) (h7 : s'.v b = s.v b) (h8 : s'.v (b + 1) = s.v (b + 1)) : brT s' b := by
  obtain ⟨k0, k1, k2, k3, k4, k5, k6, k7, k8, k9, k10, k11, k12⟩ := k
  have l1 := sgH_lt k2
  have l2 := sgH_lt k3
  have l3 := sgH_lt k4
  unfold brT sgS
  rw [h0, h1, h2, h3, h4, h5, h6, h7, h8]
  refine ⟨k0, k1, sgH_cg (fun y a c => hC y (by omega)) k2, sgH_cg (fun y a c => hC y (by omega)) k3, sgH_cg (fun y a c => hC y (by omega)) k4, by omega, by omega, fun x hx => ?_, ?_, fun x hx => ?_, ?_, k11, k12⟩
  · rw [hS _ (by omega), hC _ (by omega)]; exact k7 x hx
  · rw [hS _ (by omega)]; exact k8
  · rw [hS _ (by omega), hC _ (by omega)]; exact k9 x hx
  · rw [hS _ (by omega)]; exact k10
theorem u_mono {s : LW} : ∀ {d b : Nat}, (∀ c, c < b + d → brT s c) → s.u b ≤ s.u (b + d) := by
  intro d
  induction d with
  | zero => intro b _; exact Nat.le_refl _
  | succ d ih =>
    intro b h
    have h1 := ih (b := b) (fun c hc => h c (by omega))
    obtain ⟨-, -, -, -, -, -, -, -, -, -, -, k, -⟩ := h (b + d) (by omega)
    show s.u b ≤ s.u (b + d + 1)
    omega
theorem u_le {s : LW} {b c : Nat} (h : ∀ x, x < c → brT s x) (hb : b ≤ c) : s.u b ≤ s.u c := by
  obtain ⟨d, rfl⟩ : ∃ d, c = b + d := ⟨c - b, by omega⟩
  exact u_mono h
def scA (s : LW) : Prop := s.v s.nb ≤ s.cn ∧ s.sn = s.u s.nb + (s.cn - s.v s.nb) ∧ sgS s (s.u s.nb) (s.v s.nb) (s.cn - s.v s.nb)
def scB (s : LW) : Prop := s.v s.nb ≤ s.t2 s.nb ∧ s.t2 s.nb ≤ s.cn ∧ s.sn = s.u s.nb + (s.cn - s.v s.nb) + 1 ∧ sgS s (s.u s.nb) (s.v s.nb) (s.t2 s.nb - s.v s.nb) ∧ (s.S (s.u s.nb + (s.t2 s.nb - s.v s.nb))).1 = 60 ∧ s.li = s.u s.nb + (s.t2 s.nb - s.v s.nb) ∧ sgS s (s.u s.nb + (s.t2 s.nb - s.v s.nb) + 1) (s.t2 s.nb) (s.cn - s.t2 s.nb)
/-- by the part of the law: where its expression begins -/
def scP (s : LW) (sc ps : Nat) : Prop :=
  ((sc = 0 ∨ sc = 4) ∧ ps = s.v s.nb ∧ s.hs s.nb = 0 ∧ s.t2 s.nb = s.v s.nb ∧ scA s) ∨
  (sc = 1 ∧ ps = s.v s.nb ∧ s.hs s.nb = 1 ∧ s.t0 s.nb = s.v s.nb ∧ scA s) ∨
  (sc = 2 ∧ ps = s.t1 s.nb ∧ s.hs s.nb = 1 ∧ s.t0 s.nb = s.v s.nb ∧ s.t1 s.nb ≤ s.cn ∧ sgH s.C (s.t0 s.nb) (s.t1 s.nb) 1 ∧ scA s) ∨
  (sc = 3 ∧ ps = s.t2 s.nb ∧ s.hs s.nb = 1 ∧ s.t0 s.nb = s.v s.nb ∧ sgH s.C (s.t0 s.nb) (s.t1 s.nb) 1 ∧ sgH s.C (s.t1 s.nb) (s.t2 s.nb) 1 ∧ scB s)
def phi (w sc : Nat) : Nat := if sc = 1 then w - 2 else if sc = 2 then w else if sc = 3 then w + 2 else w - 3
def liP (s : LW) (g : GS) (x : Nat) : Prop :=
  (g.w = 3 ∨ g.w = 4) ∧ (∃ ps, scP s g.sc ps ∧ sgH s.C ps s.cn (nOp s.W s.wn + (g.w - 3))) ∧ (stO s.W s.wn ∧ n40 s.W s.wn = g.op ∧ g.op ≤ 6) ∧ (s.cn + s.wn ≤ x ∧ s.sn + s.wn ≤ x ∧ 4 * s.nb + phi g.w g.sc ≤ x) ∧ (∀ b, b < s.nb → brT s b) ∧ (s.v 0 = 0 ∧ s.u 0 = 0) ∧ (g.sc = 0 → g.w = 3 ∧ s.wn = 0 ∧ s.cn = s.v s.nb)
/-- the law is read -/
def lfP (s : LW) (x : Nat) : Prop := ∃ m, s.nb = m + 1 ∧ (∀ b, b < m → brT s b) ∧ brL s m ∧ s.cn ≤ x ∧ s.sn ≤ x ∧ 4 * s.nb ≤ x + 2 ∧ s.v 0 = 0 ∧ s.u 0 = 0 ∧ s.wn = 0
theorem liP_0 {g : GS} (h1 : g.w = 3) (h2 : g.sc = 0) (h3 : g.op = 0) : liP L0 g 0 := by
  refine ⟨Or.inl h1, ⟨0, Or.inl ⟨Or.inl h2, rfl, rfl, rfl, Nat.le_refl _, rfl, fun x hx => absurd hx (Nat.not_lt_zero _)⟩, Nat.le_refl _, fun x hx => absurd hx (Nat.not_lt_zero _), ?_⟩, ⟨trivial, ?_, by omega⟩, ⟨Nat.le_refl _, Nat.le_refl _, ?_⟩, fun b hb => absurd hb (Nat.not_lt_zero _), ⟨rfl, rfl⟩, fun _ => ⟨h1, rfl, rfl⟩⟩
  · show (0 : Nat) = 0 + (g.w - 3); omega
  · rw [h3]; rfl
  · rw [h1, h2]; exact Nat.le_refl _
/-- codes that come in keep the parts -/
theorem scP_kp {s s' : LW} {sc ps : Nat} (k : Kp s s') (h : scP s sc ps) : scP s' sc ps := by
  obtain ⟨r1, r2, r3, r4, r5, r6, r7, r8, r9⟩ := k.r
  have kc := k.cn
  have hA : scA s → scA s' := by
    intro ⟨a1, a2, a3⟩
    unfold scA sgS
    rw [r2, r8, r9]
    refine ⟨by omega, by rw [k.sn]; omega, fun x hx => ?_⟩
    by_cases hx2 : x < s.cn - s.v s.nb
    · rw [k.S _ (by omega), k.C _ (by omega)]; exact a3 x hx2
    · have := k.N (x - (s.cn - s.v s.nb)) (by omega)
      rw [show s.sn + (x - (s.cn - s.v s.nb)) = s.u s.nb + x by omega, show s.cn + (x - (s.cn - s.v s.nb)) = s.v s.nb + x by omega] at this
      exact this
  have hB : scB s → scB s' := by
    intro ⟨a0, a1, a2, a3, a4, a5, a6⟩
    unfold scB sgS
    rw [r1, r2, r6, r8, r9]
    refine ⟨a0, by omega, by rw [k.sn]; omega, fun x hx => ?_, ?_, a5, fun x hx => ?_⟩
    · rw [k.S _ (by omega), k.C _ (by omega)]; exact a3 x hx
    · rw [k.S _ (by omega)]; exact a4
    · by_cases hx2 : x < s.cn - s.t2 s.nb
      · rw [k.S _ (by omega), k.C _ (by omega)]; exact a6 x hx2
      · have := k.N (x - (s.cn - s.t2 s.nb)) (by omega)
        rw [show s.sn + (x - (s.cn - s.t2 s.nb)) = s.u s.nb + (s.t2 s.nb - s.v s.nb) + 1 + x by omega, show s.cn + (x - (s.cn - s.t2 s.nb)) = s.t2 s.nb + x by omega] at this
        exact this
  unfold scP
  rw [r2, r3, r4, r5, r6, r9]
  rcases h with ⟨a, b, c, d, e⟩ | ⟨a, b, c, d, e⟩ | ⟨a, b, c, d, e0, e, f⟩ | ⟨a, b, c, d, e, e', f⟩
  · exact Or.inl ⟨a, b, c, d, hA e⟩
  · exact Or.inr (Or.inl ⟨a, b, c, d, hA e⟩)
  · exact Or.inr (Or.inr (Or.inl ⟨a, b, c, d, by omega, sgH_cg (fun y a b => k.C y (by omega)) e, hA f⟩))
  · have := sgH_lt e'
    exact Or.inr (Or.inr (Or.inr ⟨a, b, c, d, sgH_cg (fun y a b => k.C y (by have := f.2.1; omega)) e, sgH_cg (fun y a b => k.C y (by have := f.2.1; omega)) e', hB f⟩))
theorem brT_sn {s : LW} {b : Nat} (h : brT s b) : s.u (b + 1) ≤ s.sn := by
  obtain ⟨-, -, -, -, -, -, k6, -, -, -, -, k11, -⟩ := h
  omega
theorem brT_kp {s s' : LW} {b : Nat} (k : Kp s s') (h : brT s b) : brT s' b := by
  obtain ⟨r1, r2, r3, r4, r5, r6, r7, r8, r9⟩ := k.r
  have := brT_sn h
  exact brT_cg h k.C k.cn (fun x hx => k.S x (by omega)) (by rw [k.sn]; omega) (by rw [r3]) (by rw [r4]) (by rw [r5]) (by rw [r6]) (by rw [r7]) (by rw [r8]) (by rw [r8]) (by rw [r9]) (by rw [r9])
/-- a step that only brings codes in -/
theorem liP_kp {s s' : LW} {g g' : GS} {x : Nat} (k : Kp s s') (h : liP s g x) (hw : g'.w = 3 ∨ g'.w = 4) (hsc : g'.sc = g.sc ∨ (g.sc = 0 ∧ g'.sc = 4)) (h1 : ∀ ps, sgH s.C ps s.cn (nOp s.W s.wn + (g.w - 3)) → sgH s'.C ps s'.cn (nOp s'.W s'.wn + (g'.w - 3))) (h2 : stO s'.W s'.wn ∧ n40 s'.W s'.wn = g'.op ∧ g'.op ≤ 6) (h3 : s'.cn + s'.wn ≤ s.cn + s.wn + 1) (h4 : g'.w ≤ g.w + 1) (h5 : ¬ g'.sc = 0) : liP s' g' (x + 1) := by
  obtain ⟨i1, ⟨ps, i2, i3⟩, i4, ⟨i5, i6, i7⟩, i8, i9, i10⟩ := h
  obtain ⟨r1, r2, r3, r4, r5, r6, r7, r8, r9⟩ := k.r
  have kc := k.cn
  have ks := k.sn
  refine ⟨hw, ⟨ps, ?_, h1 ps i3⟩, h2, ⟨by omega, by omega, ?_⟩, fun b hb => brT_kp k (i8 b (by rw [← r2]; exact hb)), by rw [r9, r8]; exact i9, fun e => absurd e h5⟩
  · have := scP_kp k i2
    rcases hsc with e | ⟨e1, e2⟩
    · rw [e]; exact this
    · rw [e2]
      rw [e1] at this
      rcases this with ⟨-, t⟩ | ⟨a, -⟩ | ⟨a, -⟩ | ⟨a, -⟩
      · exact Or.inl ⟨Or.inr rfl, t⟩
      · cases a
      · cases a
      · cases a
  · rw [r2]
    unfold phi at i7 ⊢
    rcases hsc with e | ⟨e1, e2⟩
    · rw [e]
      by_cases c1 : g.sc = 1
      · rw [if_pos c1] at i7 ⊢; omega
      · rw [if_neg c1] at i7 ⊢
        by_cases c2 : g.sc = 2
        · rw [if_pos c2] at i7 ⊢; omega
        · rw [if_neg c2] at i7 ⊢
          by_cases c3 : g.sc = 3
          · rw [if_pos c3] at i7 ⊢; omega
          · rw [if_neg c3] at i7 ⊢; omega
    · rw [e1] at i7
      rw [e2]
      simp (decide := true) only [if_false] at i7 ⊢
      omega
theorem rel_0 {s : LW} {ps : Nat} (h1 : stO s.W s.wn) (h2 : sgH s.C ps s.cn (nOp s.W s.wn + 1)) (h3 : n40 s.W s.wn = 0) : Kp s (rel 1 s) ∧ (rel 1 s).wn = 0 ∧ (rel 1 s).cn = s.wn + s.cn ∧ sgH (rel 1 s).C ps (rel 1 s).cn 1 := by
  obtain ⟨k1, k2, k3, k4, k5, k6, k7, k8⟩ := rel_spec 1 (Nat.le_refl _) ps s.wn s (Nat.le_refl _) h1 h2
  have h0 : (relF 1 s.wn s).wn = 0 := by
    rcases k7 with k7 | k7
    · exact k7
    · apply Classical.byContradiction
      intro hn
      obtain ⟨m, hm⟩ : ∃ m, (relF 1 s.wn s).wn = m + 1 := ⟨(relF 1 s.wn s).wn - 1, by omega⟩
      rw [hm] at k6 k7 k4
      simp only [Nat.add_sub_cancel] at k7
      rw [h3] at k6
      simp only [n40] at k6
      have h40 : (relF 1 s.wn s).W m = 40 := by
        rcases k4.2 with e | ⟨e, -⟩
        · exact e
        · exfalso; revert k7; rcases e with e | e | e | e <;> rw [e] <;> decide
      rw [if_pos h40] at k6
      cases k6
  refine ⟨k1, h0, by show (relF 1 s.wn s).cn = _; omega, ?_⟩
  have := k5
  rw [h0] at this
  exact this
theorem liT {s : LW} {g : GS} {x k v : Nat} (h : liP s g x) (hf : gf g k = 0) (hv : k = 2 → v ≤ 9999) (hk : k < 148) : (¬ k = 59 → liP (lwT s k v) (gn g k) (x + 1)) ∧ (k = 59 → lfP (lwT s k v) (x + 1) ∧ (gn g k).w = 0) := by
  have hI := h
  obtain ⟨i1, ⟨ps, i2, i3⟩, ⟨i41, i42, i43⟩, ⟨i5, i6, i7⟩, i8, ⟨i9a, i9b⟩, i10⟩ := h
  have w0 : ¬ g.w = 0 := by omega
  have w1 : ¬ g.w = 1 := by omega
  have w2 : ¬ g.w = 2 := by omega
  rcases i1 with w3 | w4
  · -- an operand is wanted
    have hn : gn g k = if k = 136 then (GS.mk g.w g.nm g.it (1) g.op (g.fi + 1) g.tm) else if k = 40 then (GS.mk g.w g.nm g.it (if g.sc = 0 then 4 else g.sc) (g.op + 1) g.fi g.tm) else (GS.mk (4) g.nm g.it (if g.sc = 0 then 4 else g.sc) g.op g.fi g.tm) := by
      unfold gn; rw [if_neg w0, if_neg w1, if_neg w2, if_pos w3]
    have hg : gf g k = if k = 136 then (if g.sc = 0 then (if 4 ≤ g.fi then 2 else 0) else 1) else if k = 40 then (if 6 ≤ g.op then 2 else 0) else if k = 2 ∨ 139 ≤ k then 0 else 1 := by
      unfold gf; rw [if_neg w0, if_neg w1, if_neg w2, if_pos w3]
    rw [hg] at hf
    rw [hn]
    have hsc4 : (if g.sc = 0 then 4 else g.sc) = g.sc ∨ (g.sc = 0 ∧ (if g.sc = 0 then 4 else g.sc) = 4) := by
      by_cases e : g.sc = 0
      · exact Or.inr ⟨e, by rw [if_pos e]⟩
      · exact Or.inl (by rw [if_neg e])
    have hsc0 : ¬ (if g.sc = 0 then 4 else g.sc) = 0 := by
      by_cases e : g.sc = 0
      · rw [if_pos e]; decide
      · rw [if_neg e]; exact e
    by_cases k136 : k = 136
    · subst k136
      simp (decide := true) only [if_true, if_false] at hf ⊢
      have s0 : g.sc = 0 := by apply Classical.byContradiction; intro e; rw [if_neg e] at hf; cases hf
      refine ⟨fun _ => ?_, fun e => by cases e⟩
      obtain ⟨-, j1, j2⟩ := i10 s0
      rw [s0] at i2 i7
      have e1 : lwT s 136 v = (LW.mk s.W s.wn s.C s.cn s.S s.sn s.li s.nb (udN s.hs s.nb 1) (udN s.t0 s.nb s.cn) s.t1 s.t2 s.t3 s.u s.v) := by unfold lwT; simp (decide := true) only [if_true, if_false]
      rw [e1]
      rcases i2 with ⟨-, a, b, c, d⟩ | ⟨a, -⟩ | ⟨a, -⟩ | ⟨a, -⟩
      · refine ⟨Or.inl w3, ⟨ps, Or.inr (Or.inl ⟨rfl, a, ?_, ?_, d⟩), i3⟩, ⟨i41, i42, i43⟩, ⟨Nat.le_succ_of_le i5, Nat.le_succ_of_le i6, ?_⟩, fun b hb => ?_, ⟨i9a, i9b⟩, fun e => by cases e⟩
        · show udN s.hs s.nb 1 s.nb = 1; simp [udN]
        · show udN s.t0 s.nb s.cn s.nb = s.v s.nb; simp [udN, j2]
        · show 4 * s.nb + phi g.w 1 ≤ x + 1
          rw [w3] at i7 ⊢
          have : phi 3 0 = 0 := rfl
          have : phi 3 1 = 1 := rfl
          omega
        · have hb' : b < s.nb := hb
          refine brT_cg (i8 b hb') (fun _ _ => rfl) (Nat.le_refl _) (fun _ _ => rfl) (Nat.le_refl _) ?_ ?_ rfl rfl rfl rfl rfl rfl rfl
          · show udN s.hs s.nb 1 b = s.hs b; unfold udN; rw [if_neg (by omega)]
          · show udN s.t0 s.nb s.cn b = s.t0 b; unfold udN; rw [if_neg (by omega)]
      · cases a
      · cases a
      · cases a
    · rw [if_neg k136] at hf
      simp only [if_neg k136]
      by_cases k40 : k = 40
      · subst k40
        simp (decide := true) only [if_true] at hf ⊢
        have o6 : ¬ 6 ≤ g.op := fun e => by rw [if_pos e] at hf; cases hf
        refine ⟨fun _ => ?_, fun e => by cases e⟩
        have e1 : lwT s 40 v = psW s 40 := by unfold lwT; simp (decide := true) only [if_true, if_false]
        rw [e1]
        have hWn : (psW s 40).W s.wn = 40 := by show udN s.W s.wn 40 s.wn = 40; simp [udN]
        have hWl : ∀ y, y < s.wn → (psW s 40).W y = s.W y := fun y hy => by show udN s.W s.wn 40 y = s.W y; unfold udN; rw [if_neg (by omega)]
        refine liP_kp (Kp.ps s 40) hI (Or.inl w3) hsc4 (fun p hp => ?_) ⟨⟨stO_cg hWl i41, Or.inl hWn⟩, ?_, by show g.op + 1 ≤ 6; omega⟩ (by show s.cn + (s.wn + 1) ≤ _; omega) (by show g.w ≤ _; omega) hsc0
        · show sgH s.C p s.cn (nOp (psW s 40).W (s.wn + 1) + (g.w - 3))
          simp only [nOp]
          rw [if_pos hWn, (nOp_cg hWl).1]; exact hp
        · show n40 (psW s 40).W (s.wn + 1) = g.op + 1
          simp only [n40]
          rw [if_pos hWn, (nOp_cg hWl).2, i42]
      · rw [if_neg k40] at hf
        simp only [if_neg k40]
        have k2 : k = 2 ∨ 139 ≤ k := by apply Classical.byContradiction; intro e; rw [if_neg e] at hf; cases hf
        have e1 : ∃ c : Nat × Nat, lwT s k v = apC s c ∧ ((c.1 = 0 ∧ c.2 ≤ 9999) ∨ (c.1 = 1 ∧ c.2 < 9)) := by
          rcases k2 with e | e
          · subst e
            exact ⟨(0, v), by unfold lwT; rw [if_pos rfl], Or.inl ⟨rfl, hv rfl⟩⟩
          · exact ⟨(1, k - 139), by unfold lwT; rw [if_neg (by omega), if_pos e], Or.inr ⟨rfl, by show k - 139 < 9; omega⟩⟩
        obtain ⟨c, e1, hc⟩ := e1
        rw [e1]
        refine ⟨fun _ => ?_, fun e => by omega⟩
        refine liP_kp (Kp.ap s c) hI (Or.inr rfl) hsc4 (fun p hp => ?_) ⟨i41, i42, i43⟩ (by show s.cn + 1 + s.wn ≤ _; omega) (by show 4 ≤ _; omega) hsc0
        have := sgH_ap hp hc
        rw [w3] at this
        exact this
  · -- an operator is wanted
    have w3 : ¬ g.w = 3 := by omega
    have hn : gn g k = cond (gOpr k) (GS.mk (3) g.nm g.it g.sc g.op g.fi g.tm) (if 0 < g.op then (GS.mk g.w g.nm g.it g.sc (g.op - 1) g.fi g.tm) else if g.sc = 1 then (GS.mk (3) g.nm g.it (2) g.op g.fi g.tm) else if g.sc = 2 then (GS.mk (3) g.nm g.it (3) g.op g.fi g.tm) else if g.sc = 3 then (GS.mk (3) g.nm g.it (0) g.op g.fi g.tm) else (GS.mk (0) g.nm g.it g.sc g.op g.fi g.tm)) := by
      unfold gn; rw [if_neg w0, if_neg w1, if_neg w2, if_neg w3]
    have hg : gf g k = cond (gOpr k) 0 (if 0 < g.op then (if k = 41 then 0 else 1) else if k = gCls g.sc then 0 else 1) := by
      unfold gf; rw [if_neg w0, if_neg w1, if_neg w2, if_neg w3]
    rw [hg] at hf
    rw [hn]
    have sc0 : ¬ g.sc = 0 := fun e => by have := (i10 e).1; omega
    rw [w4] at i3
    have i3' : sgH s.C ps s.cn (nOp s.W s.wn + 1) := i3
    cases ho : gOpr k with
    | true =>
      simp only [cond_true]
      have hop : k = 43 ∨ k = 45 ∨ k = 42 ∨ k = 47 := by
        unfold gOpr at ho
        simp only [Bool.or_eq_true, beq_iff_eq] at ho
        omega
      have e1 : lwT s k v = psW (rel (rkC k) s) k := by
        unfold lwT
        rcases hop with e | e | e | e <;> (subst e; simp (decide := true) only [if_true, if_false])
      have hrk : 1 ≤ rkC k := by rcases hop with e | e | e | e <;> (subst e; decide)
      refine ⟨fun _ => ?_, fun e => by omega⟩
      rw [e1]
      obtain ⟨q1, q2, q3, q4, q5, q6, q7, q8⟩ := rel_spec (rkC k) hrk ps s.wn s (Nat.le_refl _) i41 i3'
      change Kp s (rel (rkC k) s) at q1
      change (rel (rkC k) s).wn ≤ s.wn at q2
      change (rel (rkC k) s).wn + (rel (rkC k) s).cn = s.wn + s.cn at q3
      change stO (rel (rkC k) s).W (rel (rkC k) s).wn at q4
      change n40 (rel (rkC k) s).W (rel (rkC k) s).wn = n40 s.W s.wn at q6
      change ((rel (rkC k) s).wn = 0 ∨ rkC ((rel (rkC k) s).W ((rel (rkC k) s).wn - 1)) < rkC k) at q7
      generalize hz : rel (rkC k) s = z at *
      have hWn : (psW z k).W z.wn = k := by show udN z.W z.wn k z.wn = k; simp [udN]
      have hWl : ∀ y, y < z.wn → (psW z k).W y = z.W y := fun y hy => by show udN z.W z.wn k y = z.W y; unfold udN; rw [if_neg (by omega)]
      have k40 : ¬ k = 40 := by omega
      refine liP_kp (q1.tr (Kp.ps z k)) hI (Or.inl rfl) (Or.inl rfl) (fun p hp => ?_) ⟨⟨stO_cg hWl q4, Or.inr ⟨by rw [hWn]; omega, ?_⟩⟩, ?_, i43⟩ (by show z.cn + (z.wn + 1) ≤ _; omega) (by show 3 ≤ _; omega) sc0
      · show sgH z.C p z.cn (nOp (psW z k).W (z.wn + 1) + (3 - 3))
        simp only [nOp]
        rw [hWn, if_neg k40, (nOp_cg hWl).1]
        have := (rel_spec (rkC k) hrk p s.wn s (Nat.le_refl _) i41 (by rw [w4] at hp; exact hp)).2.2.2.2.1
        change sgH (rel (rkC k) s).C p (rel (rkC k) s).cn (nOp (rel (rkC k) s).W (rel (rkC k) s).wn + 1) at this
        rw [hz] at this
        exact this
      · rcases q7 with e | e
        · exact Or.inl e
        · by_cases hzz : z.wn = 0
          · exact Or.inl hzz
          · refine Or.inr ?_
            rw [hWn, hWl _ (by omega)]
            exact e
      · show n40 (psW z k).W (z.wn + 1) = g.op
        simp only [n40]
        rw [hWn, if_neg k40, (nOp_cg hWl).2, q6, i42]
    | false =>
      rw [ho] at hf
      simp only [cond_false] at hf ⊢
      by_cases hop : 0 < g.op
      · rw [if_pos hop] at hf ⊢
        have k41 : k = 41 := by apply Classical.byContradiction; intro e; rw [if_neg e] at hf; cases hf
        subst k41
        refine ⟨fun _ => ?_, fun e => by cases e⟩
        have e1 : lwT s 41 v = (LW.mk ((rel 1 s).W) ((rel 1 s).wn - 1) ((rel 1 s).C) ((rel 1 s).cn) ((rel 1 s).S) ((rel 1 s).sn) ((rel 1 s).li) ((rel 1 s).nb) ((rel 1 s).hs) ((rel 1 s).t0) ((rel 1 s).t1) ((rel 1 s).t2) ((rel 1 s).t3) ((rel 1 s).u) ((rel 1 s).v)) := by unfold lwT; simp (decide := true) only [if_true, if_false]
        rw [e1]
        obtain ⟨q1, q2, q3, q4, q5, q6, q7, q8⟩ := rel_spec 1 (Nat.le_refl _) ps s.wn s (Nat.le_refl _) i41 i3'
        change Kp s (rel 1 s) at q1
        change (rel 1 s).wn ≤ s.wn at q2
        change (rel 1 s).wn + (rel 1 s).cn = s.wn + s.cn at q3
        change stO (rel 1 s).W (rel 1 s).wn at q4
        change n40 (rel 1 s).W (rel 1 s).wn = n40 s.W s.wn at q6
        change ((rel 1 s).wn = 0 ∨ rkC ((rel 1 s).W ((rel 1 s).wn - 1)) < 1) at q7
        have hh : ∀ p, sgH s.C p s.cn (nOp s.W s.wn + 1) → sgH (rel 1 s).C p (rel 1 s).cn (nOp (rel 1 s).W (rel 1 s).wn + 1) := fun p hp => (rel_spec 1 (Nat.le_refl _) p s.wn s (Nat.le_refl _) i41 hp).2.2.2.2.1
        generalize hz : rel 1 s = z at *
        have hz0 : ¬ z.wn = 0 := fun e => by rw [e, i42] at q6; simp only [n40] at q6; omega
        obtain ⟨m, hm⟩ : ∃ m, z.wn = m + 1 := ⟨z.wn - 1, by omega⟩
        rw [hm] at q4 q6 q7
        have h40 : z.W m = 40 := by
          rcases q7 with e | e
          · cases e
          · simp only [Nat.add_sub_cancel] at e
            rcases q4.2 with e2 | ⟨e2, -⟩
            · exact e2
            · exfalso; revert e; rcases e2 with e2 | e2 | e2 | e2 <;> rw [e2] <;> decide
        simp only [n40] at q6
        rw [if_pos h40, i42] at q6
        have kz : Kp s (LW.mk z.W (z.wn - 1) z.C z.cn z.S z.sn z.li z.nb z.hs z.t0 z.t1 z.t2 z.t3 z.u z.v) := ⟨q1.cn, q1.sn, q1.C, q1.S, q1.N, q1.r⟩
        refine liP_kp kz hI (Or.inr w4) (Or.inl rfl) (fun p hp => ?_) ⟨?_, ?_, by show g.op - 1 ≤ 6; omega⟩ (by show z.cn + (z.wn - 1) ≤ _; omega) (by show g.w ≤ _; omega) sc0
        · show sgH z.C p z.cn (nOp z.W (z.wn - 1) + (g.w - 3))
          rw [w4] at hp
          have := hh p hp
          rw [hm] at this ⊢
          simp only [nOp] at this
          rw [if_pos h40] at this
          rw [w4]
          exact this
        · show stO z.W (z.wn - 1)
          rw [hm]; exact q4.1
        · show n40 z.W (z.wn - 1) = g.op - 1
          rw [hm]
          show n40 z.W m = g.op - 1
          omega
      · rw [if_neg hop] at hf ⊢
        have hc : k = gCls g.sc := by apply Classical.byContradiction; intro e; rw [if_neg e] at hf; cases hf
        have op0 : g.op = 0 := by omega
        obtain ⟨q1, q2, q3, q4⟩ := rel_0 i41 i3' (by rw [i42]; exact op0)
        have i2' := scP_kp q1 i2
        have i8' : ∀ b, b < s.nb → brT (rel 1 s) b := fun b hb => brT_kp q1 (i8 b hb)
        obtain ⟨r1, r2, r3, r4, r5, r6, r7, r8, r9⟩ := q1.r
        have qs := q1.sn
        have qc := q1.cn
        generalize hz : rel 1 s = z at *
        have hzn : z.cn ≤ x := by omega
        have hzs : z.sn ≤ x := by omega
        unfold gCls at hc
        by_cases c1 : g.sc = 1
        · simp only [c1, if_true] at hc ⊢
          subst hc
          refine ⟨fun _ => ?_, fun e => by cases e⟩
          have e1 : lwT s 60 v = (LW.mk z.W z.wn z.C z.cn z.S z.sn z.li z.nb z.hs z.t0 (udN s.t1 s.nb z.cn) z.t2 z.t3 z.u z.v) := by unfold lwT; rw [hz]; simp (decide := true) only [if_true, if_false]
          rw [e1]
          rw [c1] at i2'
          rw [w4, c1] at i7
          rcases i2' with ⟨a, -⟩ | ⟨-, a, b, c, d⟩ | ⟨a, -⟩ | ⟨a, -⟩
          · omega
          · have ht1 : udN s.t1 s.nb z.cn z.nb = z.cn := by rw [r2]; simp [udN]
            refine ⟨Or.inl rfl, ⟨z.cn, Or.inr (Or.inr (Or.inl ⟨rfl, ht1.symm, b, c, by show udN s.t1 s.nb z.cn z.nb ≤ z.cn; rw [ht1]; exact Nat.le_refl _, ?_, d⟩)), ?_⟩, ⟨by show stO z.W z.wn; rw [q2]; trivial, by show n40 z.W z.wn = g.op; rw [q2, op0]; rfl, i43⟩, ⟨by show z.cn + z.wn ≤ _; omega, by show z.sn + z.wn ≤ _; omega, ?_⟩, fun b hb => ?_, ?_, fun e => by cases e⟩
            · show sgH z.C (z.t0 z.nb) (udN s.t1 s.nb z.cn z.nb) 1
              rw [ht1, c, ← a]; exact q4
            · refine ⟨Nat.le_refl _, fun y hy => absurd (show y < z.cn - z.cn from hy) (by omega), ?_⟩
              show cHt z.C z.cn (z.cn - z.cn) = nOp z.W z.wn + 0
              rw [q2, Nat.sub_self]; rfl
            · show 4 * z.nb + phi 3 2 ≤ x + 1
              rw [r2]
              have : phi 4 1 = 2 := rfl
              have : phi 3 2 = 3 := rfl
              omega
            · have hb' : b < s.nb := by rw [← r2]; exact hb
              refine brT_cg (i8' b hb') (fun _ _ => rfl) (Nat.le_refl _) (fun _ _ => rfl) (Nat.le_refl _) rfl rfl ?_ rfl rfl rfl rfl rfl rfl
              show udN s.t1 s.nb z.cn b = z.t1 b
              rw [r5]; unfold udN; rw [if_neg (by omega)]
            · show z.v 0 = 0 ∧ z.u 0 = 0
              rw [r8, r9]; exact ⟨i9a, i9b⟩
          · omega
          · omega
        · by_cases c2 : g.sc = 2
          · simp (decide := true) only [c2, if_true, if_false] at hc ⊢
            subst hc
            refine ⟨fun _ => ?_, fun e => by cases e⟩
            have e1 : lwT s 137 v = apS (LW.mk z.W z.wn z.C z.cn z.S z.sn (z.sn) z.nb z.hs z.t0 z.t1 (udN z.t2 s.nb z.cn) z.t3 z.u z.v) (60, 0) := by unfold lwT; rw [hz]; simp (decide := true) only [if_true, if_false]
            rw [e1]
            rw [c2] at i2'
            rw [w4, c2] at i7
            rcases i2' with ⟨a, -⟩ | ⟨a, -⟩ | ⟨-, a, b, c, d0, d, f1, f2, f3⟩ | ⟨a, -⟩
            · omega
            · omega
            · have ht2 : udN z.t2 s.nb z.cn z.nb = z.cn := by rw [r2]; simp [udN]
              have hlt := sgH_lt d
              have hSo : ∀ y, y < z.sn → udN z.S z.sn (60, 0) y = z.S y := fun y hy => by unfold udN; rw [if_neg (by omega)]
              refine ⟨Or.inl rfl, ⟨z.cn, Or.inr (Or.inr (Or.inr ⟨rfl, ht2.symm, b, c, d, ?_, ?_⟩)), ?_⟩, ⟨by show stO z.W z.wn; rw [q2]; trivial, by show n40 z.W z.wn = g.op; rw [q2, op0]; rfl, i43⟩, ⟨by show z.cn + z.wn ≤ _; omega, by show z.sn + 1 + z.wn ≤ _; omega, ?_⟩, fun b hb => ?_, ?_, fun e => by cases e⟩
              · show sgH z.C (z.t1 z.nb) (udN z.t2 s.nb z.cn z.nb) 1
                rw [ht2, ← a]; exact q4
              · unfold scB sgS
                show z.v z.nb ≤ udN z.t2 s.nb z.cn z.nb ∧ udN z.t2 s.nb z.cn z.nb ≤ z.cn ∧ z.sn + 1 = z.u z.nb + (z.cn - z.v z.nb) + 1 ∧ (∀ y, y < udN z.t2 s.nb z.cn z.nb - z.v z.nb → udN z.S z.sn (60, 0) (z.u z.nb + y) = enS (z.C (z.v z.nb + y))) ∧ (udN z.S z.sn (60, 0) (z.u z.nb + (udN z.t2 s.nb z.cn z.nb - z.v z.nb))).1 = 60 ∧ z.sn = z.u z.nb + (udN z.t2 s.nb z.cn z.nb - z.v z.nb) ∧ (∀ y, y < z.cn - udN z.t2 s.nb z.cn z.nb → udN z.S z.sn (60, 0) (z.u z.nb + (udN z.t2 s.nb z.cn z.nb - z.v z.nb) + 1 + y) = enS (z.C (udN z.t2 s.nb z.cn z.nb + y)))
                rw [ht2]
                refine ⟨f1, Nat.le_refl _, by omega, fun y hy => ?_, ?_, f2, fun y hy => absurd hy (by omega)⟩
                · rw [hSo _ (by omega)]; exact f3 y hy
                · rw [← f2]; simp [udN]
              · refine ⟨Nat.le_refl _, fun y hy => absurd (show y < z.cn - z.cn from hy) (by omega), ?_⟩
                show cHt z.C z.cn (z.cn - z.cn) = nOp z.W z.wn + 0
                rw [q2, Nat.sub_self]; rfl
              · show 4 * z.nb + phi 3 3 ≤ x + 1
                rw [r2]
                have : phi 4 2 = 4 := rfl
                have : phi 3 3 = 5 := rfl
                omega
              · have hb' : b < s.nb := by rw [← r2]; exact hb
                have hus := brT_sn (i8' b hb')
                refine brT_cg (i8' b hb') (fun _ _ => rfl) (Nat.le_refl _) (fun y hy => hSo y (by omega)) (Nat.le_succ _) rfl rfl rfl ?_ rfl rfl rfl rfl rfl
                show udN z.t2 s.nb z.cn b = z.t2 b
                unfold udN; rw [if_neg (by omega)]
              · show z.v 0 = 0 ∧ z.u 0 = 0
                rw [r8, r9]; exact ⟨i9a, i9b⟩
            · omega
          · by_cases c3 : g.sc = 3
            · simp (decide := true) only [c3, if_true, if_false] at hc ⊢
              subst hc
              refine ⟨fun _ => ?_, fun e => by cases e⟩
              have e1 : lwT s 138 v = (LW.mk ((apS z (2, 0)).W) ((apS z (2, 0)).wn) ((apS z (2, 0)).C) ((apS z (2, 0)).cn) (udN (udN z.S z.sn (2, 0)) s.li (60, z.sn + 1)) ((apS z (2, 0)).sn) ((apS z (2, 0)).li) (s.nb + 1) (udN s.hs (s.nb + 1) 0) ((apS z (2, 0)).t0) ((apS z (2, 0)).t1) (udN s.t2 (s.nb + 1) z.cn) (udN s.t3 s.nb z.cn) (udN s.u (s.nb + 1) (z.sn + 1)) (udN s.v (s.nb + 1) z.cn)) := by unfold lwT; rw [hz]; simp (decide := true) only [if_true, if_false]
              rw [e1]
              rw [c3] at i2'
              rw [w4, c3] at i7
              clear e1 hz
              rcases i2' with ⟨a, -⟩ | ⟨a, -⟩ | ⟨a, -⟩ | ⟨-, a, b, c, d, d2, f0, f1, f2, f3, f4, f5, f6⟩
              · omega
              · omega
              · omega
              · rw [r2] at a b c d d2 f0 f1 f2 f3 f4 f5 f6
                rw [r3] at b
                rw [r4, r9] at c
                rw [r4, r5] at d
                rw [r5, r6] at d2
                rw [r6] at a
                rw [r9, r6] at f0
                rw [r6] at f1
                rw [r8, r9] at f2
                rw [r6, r8, r9] at f3 f4 f6
                rw [r1, r6, r8, r9] at f5
                have l1 := sgH_lt d
                have l2 := sgH_lt d2
                have l3 := sgH_lt q4
                have v1 : udN s.v (s.nb + 1) z.cn (s.nb + 1) = z.cn := by simp [udN]
                have u1 : udN s.u (s.nb + 1) (z.sn + 1) (s.nb + 1) = z.sn + 1 := by simp [udN]
                have vn : ∀ y, y ≤ s.nb → udN s.v (s.nb + 1) z.cn y = s.v y := fun y hy => by unfold udN; rw [if_neg (by omega)]
                have un : ∀ y, y ≤ s.nb → udN s.u (s.nb + 1) (z.sn + 1) y = s.u y := fun y hy => by unfold udN; rw [if_neg (by omega)]
                have tn : ∀ y, y ≤ s.nb → udN s.t2 (s.nb + 1) z.cn y = s.t2 y := fun y hy => by unfold udN; rw [if_neg (by omega)]
                have hn : ∀ y, y ≤ s.nb → udN s.hs (s.nb + 1) 0 y = s.hs y := fun y hy => by unfold udN; rw [if_neg (by omega)]
                have hSo : ∀ y, y < z.sn → ¬ y = s.li → udN (udN z.S z.sn (2, 0)) s.li (60, z.sn + 1) y = z.S y := fun y hy h2 => by unfold udN; rw [if_neg h2, if_neg (by omega)]
                refine ⟨Or.inl rfl, ⟨z.cn, Or.inl ⟨Or.inl rfl, v1.symm, ?_, ?_, ?_⟩, ?_⟩, ⟨by show stO z.W z.wn; rw [q2]; trivial, by show n40 z.W z.wn = g.op; rw [q2, op0]; rfl, i43⟩, ⟨by show z.cn + z.wn ≤ _; omega, by show z.sn + 1 + z.wn ≤ _; omega, ?_⟩, fun b hb => ?_, ?_, fun _ => ⟨rfl, q2, v1.symm⟩⟩
                · show udN s.hs (s.nb + 1) 0 (s.nb + 1) = 0; simp [udN]
                · show udN s.t2 (s.nb + 1) z.cn (s.nb + 1) = udN s.v (s.nb + 1) z.cn (s.nb + 1); simp [udN]
                · unfold scA sgS
                  show udN s.v (s.nb + 1) z.cn (s.nb + 1) ≤ z.cn ∧ z.sn + 1 = udN s.u (s.nb + 1) (z.sn + 1) (s.nb + 1) + (z.cn - udN s.v (s.nb + 1) z.cn (s.nb + 1)) ∧ ∀ y, y < z.cn - udN s.v (s.nb + 1) z.cn (s.nb + 1) → _
                  rw [v1, u1]
                  exact ⟨Nat.le_refl _, by omega, fun y hy => absurd hy (by omega)⟩
                · refine ⟨Nat.le_refl _, fun y hy => absurd (show y < z.cn - z.cn from hy) (by omega), ?_⟩
                  show cHt z.C z.cn (z.cn - z.cn) = nOp z.W z.wn + 0
                  rw [q2, Nat.sub_self]; rfl
                · show 4 * (s.nb + 1) + phi 3 0 ≤ x + 1
                  have : phi 4 3 = 6 := rfl
                  have : phi 3 0 = 0 := rfl
                  omega
                · have hb' : b < s.nb + 1 := hb
                  by_cases hbn : b = s.nb
                  · subst hbn
                    unfold brT sgS
                    show udN s.hs (s.nb + 1) 0 s.nb = 1 ∧ z.t0 s.nb = udN s.v (s.nb + 1) z.cn s.nb ∧ sgH z.C (z.t0 s.nb) (z.t1 s.nb) 1 ∧ sgH z.C (z.t1 s.nb) (udN s.t2 (s.nb + 1) z.cn s.nb) 1 ∧ sgH z.C (udN s.t2 (s.nb + 1) z.cn s.nb) (udN s.t3 s.nb z.cn s.nb) 1 ∧ udN s.t3 s.nb z.cn s.nb ≤ z.cn ∧ udN s.u (s.nb + 1) (z.sn + 1) s.nb + (udN s.t3 s.nb z.cn s.nb - udN s.v (s.nb + 1) z.cn s.nb) + 2 ≤ z.sn + 1 ∧ (∀ y, y < udN s.t2 (s.nb + 1) z.cn s.nb - udN s.v (s.nb + 1) z.cn s.nb → udN (udN z.S z.sn (2, 0)) s.li (60, z.sn + 1) (udN s.u (s.nb + 1) (z.sn + 1) s.nb + y) = enS (z.C (udN s.v (s.nb + 1) z.cn s.nb + y))) ∧ udN (udN z.S z.sn (2, 0)) s.li (60, z.sn + 1) (udN s.u (s.nb + 1) (z.sn + 1) s.nb + (udN s.t2 (s.nb + 1) z.cn s.nb - udN s.v (s.nb + 1) z.cn s.nb)) = (60, udN s.u (s.nb + 1) (z.sn + 1) (s.nb + 1)) ∧ (∀ y, y < udN s.t3 s.nb z.cn s.nb - udN s.t2 (s.nb + 1) z.cn s.nb → udN (udN z.S z.sn (2, 0)) s.li (60, z.sn + 1) (udN s.u (s.nb + 1) (z.sn + 1) s.nb + (udN s.t2 (s.nb + 1) z.cn s.nb - udN s.v (s.nb + 1) z.cn s.nb) + 1 + y) = enS (z.C (udN s.t2 (s.nb + 1) z.cn s.nb + y))) ∧ udN (udN z.S z.sn (2, 0)) s.li (60, z.sn + 1) (udN s.u (s.nb + 1) (z.sn + 1) s.nb + (udN s.t3 s.nb z.cn s.nb - udN s.v (s.nb + 1) z.cn s.nb) + 1) = (2, 0) ∧ udN s.u (s.nb + 1) (z.sn + 1) (s.nb + 1) = udN s.u (s.nb + 1) (z.sn + 1) s.nb + (udN s.t3 s.nb z.cn s.nb - udN s.v (s.nb + 1) z.cn s.nb) + 2 ∧ udN s.v (s.nb + 1) z.cn (s.nb + 1) = udN s.t3 s.nb z.cn s.nb
                    have t3n : udN s.t3 s.nb z.cn s.nb = z.cn := by simp [udN]
                    rw [t3n, v1, u1, vn _ (Nat.le_refl _), un _ (Nat.le_refl _), tn _ (Nat.le_refl _), hn _ (Nat.le_refl _), r4, r5]
                    refine ⟨b, c, d, d2, by rw [← a]; exact q4, Nat.le_refl _, by omega, fun y hy => ?_, ?_, fun y hy => ?_, ?_, by omega, rfl⟩
                    · rw [hSo _ (by omega) (by omega)]; exact f3 y hy
                    · rw [← f5]; simp [udN]
                    · rw [hSo _ (by omega) (by omega)]; exact f6 y hy
                    · rw [show s.u s.nb + (z.cn - s.v s.nb) + 1 = z.sn by omega]
                      have : ¬ z.sn = s.li := by omega
                      simp [udN, this]
                  · have hb2 : b < s.nb := by omega
                    have hus := u_le (b := b + 1) (c := s.nb) i8' (by omega)
                    rw [r8] at hus
                    have hu8 : z.u (b + 1) = s.u (b + 1) := by rw [r8]
                    refine brT_cg (i8' b hb2) (fun _ _ => rfl) (Nat.le_refl _) (fun y hy => hSo y ?_ ?_) (Nat.le_succ _) ?_ rfl rfl ?_ ?_ ?_ ?_ ?_ ?_
                    · rw [hu8] at hy; omega
                    · rw [hu8] at hy; omega
                    · rw [r3]; exact hn b (by omega)
                    · rw [r6]; exact tn b (by omega)
                    · rw [r7]; show udN s.t3 s.nb z.cn b = s.t3 b; unfold udN; rw [if_neg hbn]
                    · rw [r8]; exact un b (by omega)
                    · rw [r8]; exact un (b + 1) (by omega)
                    · rw [r9]; exact vn b (by omega)
                    · rw [r9]; exact vn (b + 1) (by omega)
                · show udN s.v (s.nb + 1) z.cn 0 = 0 ∧ udN s.u (s.nb + 1) (z.sn + 1) 0 = 0
                  rw [vn 0 (Nat.zero_le _), un 0 (Nat.zero_le _)]; exact ⟨i9a, i9b⟩
            · simp only [c1, c2, c3, if_false] at hc ⊢
              subst hc
              refine ⟨fun e => absurd rfl e, fun _ => ⟨?_, rfl⟩⟩
              have e1 : lwT s 59 v = (LW.mk ((apS z (2, 0)).W) ((apS z (2, 0)).wn) ((apS z (2, 0)).C) ((apS z (2, 0)).cn) ((apS z (2, 0)).S) ((apS z (2, 0)).sn) ((apS z (2, 0)).li) (s.nb + 1) ((apS z (2, 0)).hs) ((apS z (2, 0)).t0) ((apS z (2, 0)).t1) ((apS z (2, 0)).t2) (udN s.t3 s.nb z.cn) ((apS z (2, 0)).u) ((apS z (2, 0)).v)) := by unfold lwT; rw [hz]; simp (decide := true) only [if_true, if_false]
              rw [e1]
              rcases i2' with ⟨-, a, b, c, f1, f2, f3⟩ | ⟨a, -⟩ | ⟨a, -⟩ | ⟨a, -⟩
              · have hSo : ∀ y, y < z.sn → udN z.S z.sn (2, 0) y = z.S y := fun y hy => by unfold udN; rw [if_neg (by omega)]
                rw [r2] at a b c f1 f2 f3
                have l3 := sgH_lt q4
                have t3n : udN s.t3 s.nb z.cn s.nb = z.cn := by simp [udN]
                refine ⟨s.nb, rfl, fun b hb => ?_, ?_, by show z.cn ≤ _; omega, by show z.sn + 1 ≤ _; omega, ?_, ?_, ?_, q2⟩
                · have hus := brT_sn (i8' b hb)
                  refine brT_cg (i8' b hb) (fun _ _ => rfl) (Nat.le_refl _) (fun y hy => hSo y (by omega)) (Nat.le_succ _) rfl rfl rfl rfl ?_ rfl rfl rfl rfl
                  show udN s.t3 s.nb z.cn b = z.t3 b
                  rw [r7]; unfold udN; rw [if_neg (by omega)]
                · unfold brL sgS
                  show z.hs s.nb = 0 ∧ sgH z.C (z.t2 s.nb) (udN s.t3 s.nb z.cn s.nb) 1 ∧ udN s.t3 s.nb z.cn s.nb ≤ z.cn ∧ z.t2 s.nb = z.v s.nb ∧ (∀ y, y < udN s.t3 s.nb z.cn s.nb - z.v s.nb → udN z.S z.sn (2, 0) (z.u s.nb + y) = enS (z.C (z.v s.nb + y))) ∧ udN z.S z.sn (2, 0) (z.u s.nb + (udN s.t3 s.nb z.cn s.nb - z.v s.nb)) = (2, 0) ∧ z.u s.nb + (udN s.t3 s.nb z.cn s.nb - z.v s.nb) + 1 ≤ z.sn + 1
                  rw [t3n]
                  refine ⟨b, by rw [c, ← a]; exact q4, Nat.le_refl _, c, fun y hy => ?_, ?_, by omega⟩
                  · rw [hSo _ (by omega)]; exact f3 y hy
                  · rw [← f2]; simp [udN]
                · show 4 * (s.nb + 1) ≤ _
                  have h1 : 1 ≤ phi g.w g.sc := by
                    rw [w4]; unfold phi; rw [if_neg c1, if_neg c2, if_neg c3]; decide
                  omega
                · show z.v 0 = 0; rw [r9]; exact i9a
                · show z.u 0 = 0; rw [r8]; exact i9b
              · exact absurd a c1
              · exact absurd a c2
              · exact absurd a c3
/-- every step is one that there is -/
def lwV (s : LW) : Prop := ∀ y, y < s.sn → (s.S y).2 ≤ 9999 ∧ ((s.S y).1 = 60 → (s.S y).2 ≤ 402) ∧ ((s.S y).1 = 1 → (s.S y).2 < 9) ∧ (s.S y).1 ≤ 60
theorem lwV_up {s s' : LW} {c : Nat × Nat} (h : lwV s) (hn : s'.sn = s.sn + 1) (hS : s'.S = udN s.S s.sn c) (hc : c.2 ≤ 9999 ∧ (c.1 = 60 → c.2 ≤ 402) ∧ (c.1 = 1 → c.2 < 9) ∧ c.1 ≤ 60) : lwV s' := by
  intro y hy
  rw [hn] at hy
  rw [hS]
  unfold udN
  by_cases e : y = s.sn
  · rw [if_pos e]; exact hc
  · rw [if_neg e]; exact h y (by omega)
theorem enS_op (k : Nat) : (enS (opC k, 0)).2 ≤ 9999 ∧ ((enS (opC k, 0)).1 = 60 → (enS (opC k, 0)).2 ≤ 402) ∧ ((enS (opC k, 0)).1 = 1 → (enS (opC k, 0)).2 < 9) ∧ (enS (opC k, 0)).1 ≤ 60 := by
  have h : (enS (opC k, 0)).2 = 0 := by unfold enS; split <;> rfl
  rw [h]
  refine ⟨by decide, fun _ => by decide, fun _ => by decide, ?_⟩
  unfold opC
  split
  · decide
  · split
    · decide
    · split <;> decide
theorem lwV_rel (r : Nat) : ∀ (f : Nat) (s : LW), lwV s → lwV (relF r f s) ∧ (relF r f s).sn + (relF r f s).wn = s.sn + s.wn := by
  intro f
  induction f with
  | zero => intro s h; exact ⟨h, rfl⟩
  | succ f ih =>
    intro s h
    simp only [relF]
    by_cases hc : 0 < s.wn ∧ r ≤ rkC (s.W (s.wn - 1))
    · rw [if_pos hc]
      obtain ⟨a, b⟩ := ih (popW s) (lwV_up h rfl rfl (enS_op _))
      refine ⟨a, ?_⟩
      rw [b]
      show s.sn + 1 + (s.wn - 1) = _
      omega
    · rw [if_neg hc]; exact ⟨h, rfl⟩
theorem svT {s : LW} {k v : Nat} (h : lwV s) (hb : s.sn + s.wn ≤ 400) (hv : k = 2 → v ≤ 9999) (hk : k < 148) : lwV (lwT s k v) := by
  unfold lwT
  obtain ⟨r1, r2⟩ := lwV_rel 1 s.wn s h
  change lwV (rel 1 s) at r1
  change (rel 1 s).sn + (rel 1 s).wn = s.sn + s.wn at r2
  split
  · rename_i h2
    exact lwV_up h rfl rfl ⟨hv h2, fun e => (by cases e), fun e => (by cases e), (by show 0 ≤ 60; decide)⟩
  · split
    · rename_i h2
      refine lwV_up h rfl rfl ⟨?_, fun e => ?_, fun e => ?_, ?_⟩
      · show k - 139 ≤ 9999; omega
      · cases e
      · show k - 139 < 9; omega
      · show 1 ≤ 60; decide
    · split
      · exact lwV_up (s := rel 1 s) r1 rfl rfl ⟨by decide, fun _ => by decide, fun e => (by cases e), by decide⟩
      · split
        · intro y hy
          have hy' : y < (rel 1 s).sn + 1 := hy
          show (udN (udN (rel 1 s).S (rel 1 s).sn (2, 0)) s.li (60, (rel 1 s).sn + 1) y).2 ≤ 9999 ∧ ((udN (udN (rel 1 s).S (rel 1 s).sn (2, 0)) s.li (60, (rel 1 s).sn + 1) y).1 = 60 → (udN (udN (rel 1 s).S (rel 1 s).sn (2, 0)) s.li (60, (rel 1 s).sn + 1) y).2 ≤ 402) ∧ ((udN (udN (rel 1 s).S (rel 1 s).sn (2, 0)) s.li (60, (rel 1 s).sn + 1) y).1 = 1 → (udN (udN (rel 1 s).S (rel 1 s).sn (2, 0)) s.li (60, (rel 1 s).sn + 1) y).2 < 9) ∧ (udN (udN (rel 1 s).S (rel 1 s).sn (2, 0)) s.li (60, (rel 1 s).sn + 1) y).1 ≤ 60
          unfold udN
          by_cases e : y = s.li
          · rw [if_pos e]; exact ⟨by show (rel 1 s).sn + 1 ≤ _; omega, fun _ => by show (rel 1 s).sn + 1 ≤ _; omega, fun e => (by cases e), by show 60 ≤ 60; decide⟩
          · rw [if_neg e]
            by_cases e2 : y = (rel 1 s).sn
            · rw [if_pos e2]; exact ⟨by decide, fun e => (by cases e), fun e => (by cases e), by decide⟩
            · rw [if_neg e2]; exact r1 y (by omega)
        · split
          · exact lwV_up (s := rel 1 s) r1 rfl rfl ⟨by decide, fun e => (by cases e), fun e => (by cases e), by decide⟩
          · split
            · exact r1
            · split
              · exact r1
              · split
                · exact h
                · split
                  · exact h
                  · exact (lwV_rel (rkC k) s.wn s h).1
theorem lwV_0 : lwV L0 := fun y hy => absurd hy (Nat.not_lt_zero _)
/-- along the tokens of a law -/
theorem law_go {K V : Nat → Nat} {b : GS} {a : Nat} (hK : ∀ t, K t < 148) (hV : ∀ t, K t = 2 → V t ≤ 9999) (h3 : (gst K b a).w = 3) (hs : (gst K b a).sc = 0) (ho : (gst K b a).op = 0) : ∀ x, okT K b (a + x) → (∀ y, y < x → ¬ K (a + y) = 59) → liP (lwR K V a x) (gst K b (a + x)) x ∧ lwV (lwR K V a x) := by
  intro x
  induction x with
  | zero => intro _ _; exact ⟨liP_0 h3 hs ho, lwV_0⟩
  | succ x ih =>
    intro hok hne
    obtain ⟨i1, i2⟩ := ih (okT_le hok (by omega)) (fun y hy => hne y (by omega))
    have hx := hok.2 (a + x) (by omega)
    have := (liT i1 hx.2 (hV _) (hK _)).1 (hne x (by omega))
    refine ⟨this, svT i2 ?_ (hV _) (hK _)⟩
    have h400 := hok.1
    obtain ⟨-, -, -, ⟨-, h6, -⟩, -⟩ := i1
    omega
theorem law_end {K V : Nat → Nat} {b : GS} {a x : Nat} (hK : ∀ t, K t < 148) (hV : ∀ t, K t = 2 → V t ≤ 9999) (h3 : (gst K b a).w = 3) (hs : (gst K b a).sc = 0) (ho : (gst K b a).op = 0) (hok : okT K b (a + x)) (hne : ∀ y, y < x → ¬ K (a + y) = 59) (hf : gf (gst K b (a + x)) (K (a + x)) = 0) (he : K (a + x) = 59) : lfP (lwR K V a (x + 1)) (x + 1) ∧ lwV (lwR K V a (x + 1)) := by
  obtain ⟨i1, i2⟩ := law_go hK hV h3 hs ho x hok hne
  refine ⟨((liT i1 hf (hV _) (hK _)).2 he).1, svT i2 ?_ (hV _) (hK _)⟩
  have h400 := hok.1
  obtain ⟨-, -, -, ⟨-, h6, -⟩, -⟩ := i1
  omega
