/-! what a text comes to -/
def rdO (tb : Nat → Nat) (n F : Nat) (pl : Int32) (T : Nat) : Prop := ∃ f, foT (tkk tb n) g0 T f ∧ ((¬ f = 0 ∧ F = f ∧ pl = nI (tkP tb n T)) ∨ (f = 0 ∧ ((¬ (foA (tkk tb n) (tkv tb n) T).wk = 0 ∧ F = (foA (tkk tb n) (tkv tb n) T).wk ∧ pl = nI (tkP tb n (foA (tkk tb n) (tkv tb n) T).wt)) ∨ ((foA (tkk tb n) (tkv tb n) T).wk = 0 ∧ (foA (tkk tb n) (tkv tb n) T).sd ≤ frT (tkk tb n) (tkv tb n) T ∧ F = 5 ∧ pl = nI n) ∨ ((foA (tkk tb n) (tkv tb n) T).wk = 0 ∧ frT (tkk tb n) (tkv tb n) T < (foA (tkk tb n) (tkv tb n) T).sd ∧ F = 0 ∧ pl = -1))))
/-- a text with no fault -/
theorem rdO_0 {tb : Nat → Nat} {n T : Nat} {pl : Int32} (h : rdO tb n 0 pl T) : okT (tkk tb n) g0 T ∧ gE (tkk tb n) g0 T ∧ (foA (tkk tb n) (tkv tb n) T).wk = 0 ∧ frT (tkk tb n) (tkv tb n) T < (foA (tkk tb n) (tkv tb n) T).sd ∧ pl = -1 := by
  obtain ⟨f, h1, h2⟩ := h
  rcases h2 with ⟨a, b, -⟩ | ⟨a, h2⟩
  · exact absurd b.symm a
  · rcases h2 with ⟨b, c, -⟩ | ⟨-, -, c, -⟩ | ⟨b, c, -, d⟩
    · exact absurd c.symm b
    · cases c
    · obtain ⟨h3, h4⟩ := h1
      rcases h4 with ⟨h5, -⟩ | ⟨-, -, h5⟩ | ⟨-, -, -, h5⟩
      · exact ⟨h3, h5, b, c, d⟩
      · exact absurd a h5
      · rw [a] at h5; cases h5
theorem sf_kind {K V : Nat → Nat} : ∀ t : Nat, (foA K V t).wk ≤ 5 := by
  intro t
  have hr : ∀ s fi f i, (rgS V s fi f i).1 ≤ 5 := by
    intro s fi f
    induction f with
    | zero => intro i; exact Nat.zero_le _
    | succ f ihf => intro i; simp only [rgS]; split; exact Nat.le_refl _; exact ihf _
  induction t with
  | zero => exact Nat.zero_le _
  | succ t ih =>
    have e2 : foA K V (t + 1) = cond (tS K t) (tlT K V (foA K V t) t) (foA K V t) := rfl
    rw [e2]
    cases tS K t with
    | false => exact ih
    | true =>
      simp only [cond_true]
      rw [(tlT_w _ _).1]
      unfold tlW
      split
      · rw [TA_wk]
        unfold sfT
        split
        · exact (by decide : 3 ≤ 5)
        · exact hr _ _ _ _
      · exact ih
theorem C_reader {tb : Nat → Nat} {n : Nat} {im : gm_I} {lm : gm_L} (hT : TX im tb n) (hst : stR im) (hw : ∀ w, w < 20 → lm 4 w = Int64.ofNat (pkL 32 (cwd w))) : ∃ im' lm' F pl T, gm_den 52 0 [.ref 2, .ref 1, .int (nI n), .null] [] 128 gm_RF im lm = some (some (.int (nI F)), 128, gm_RF, im', lm') ∧ rdO tb n F pl T ∧ F ≤ 5 ∧ Fr [2, 3, 5, 6, 7, 8, 10] im im' ∧ Fr [3, 9] lm lm' ∧ im' 2 3 = pl ∧ (F = 0 → tokR im' lm' (tkk tb n) (tkv tb n) (tkP tb n) T) := by
  obtain ⟨im1, lm1, T, f, h1, h2, h3, h4, h5, h6⟩ := C_form hT hst hw
  have n1 : Value.category .null = 1 := rfl
  have hok := h2.1
  have h400 := hok.1
  by_cases hf : f = 0
  · subst hf
    have htok := h6 rfl
    have hgE : gE (tkk tb n) g0 T := by
      rcases h2.2 with ⟨a, -⟩ | ⟨-, -, a⟩ | ⟨-, -, -, a⟩
      · exact a
      · exact absurd rfl a
      · cases a
    have hst1 : stR im1 := stR_k hst (fun q hq => h3 q (by simp; omega))
    obtain ⟨im2, s1, s2, s3⟩ := C_sense htok h400 hst1 (tkk_lt tb n) (tkv_lt tb n) (fun t h => tkv_int h) hok hgE.1 n
    have hk5 := sf_kind (K := tkk tb n) (V := tkv tb n) T
    have htok2 : tokR im2 lm1 (tkk tb n) (tkv tb n) (tkP tb n) T := by
      unfold tokR
      rw [s2 7 (by decide), s2 8 (by decide), s2 10 (by decide)]
      exact htok
    have z0 : nI 0 = 0 := rfl
    rw [z0] at h1
    by_cases hwk : (foA (tkk tb n) (tkv tb n) T).wk = 0
    · rw [if_pos hwk] at s1 s3
      by_cases hsd : (foA (tkk tb n) (tkv tb n) T).sd ≤ frT (tkk tb n) (tkv tb n) T
      · rw [if_pos hsd] at s1
        have e5 : ¬ nI 5 = 0 := by decide
        refine ⟨im2, lm1, 5, nI n, T, ?_, ⟨0, h2, Or.inr ⟨rfl, Or.inr (Or.inl ⟨hwk, hsd, rfl, rfl⟩)⟩⟩, by decide, h3.tr (s2.mo (by decide)), h4, s3, fun h => (by cases h)⟩
        simp (decide := true) only [QX4_faultOf, n1, h1, gm_cont_i, if_true, if_false, s1, e5, not_false_eq_true, not_true_eq_false]
      · rw [if_neg hsd] at s1
        rw [z0] at s1
        refine ⟨gm_up im2 2 3 (-1), lm1, 0, -1, T, ?_, ⟨0, h2, Or.inr ⟨rfl, Or.inr (Or.inr ⟨hwk, by omega, rfl, rfl⟩)⟩⟩, by decide, (h3.tr (s2.mo (by decide))).up (by decide), h4, gu_eq, fun _ => ?_⟩
        · simp (decide := true) only [QX4_faultOf, n1, h1, gm_cont_i, if_true, if_false, s1, not_true_eq_false]; rfl
        · unfold tokR
          rw [gu_row (by decide), gu_row (by decide), gu_row (by decide)]
          exact htok2
    · rw [if_neg hwk] at s1 s3
      have e5 : ¬ nI (foA (tkk tb n) (tkv tb n) T).wk = 0 := nI_ne0 (by omega) (by omega)
      refine ⟨im2, lm1, _, _, T, ?_, ⟨0, h2, Or.inr ⟨rfl, Or.inl ⟨hwk, rfl, rfl⟩⟩⟩, hk5, h3.tr (s2.mo (by decide)), h4, s3, fun h => absurd h hwk⟩
      simp (decide := true) only [QX4_faultOf, n1, h1, gm_cont_i, if_true, if_false, s1, e5, not_false_eq_true, not_true_eq_false]
  · have hf5 : f ≤ 5 := by
      rcases h2.2 with ⟨-, a⟩ | ⟨-, a, -⟩ | ⟨-, -, -, a⟩
      · omega
      · have := gf_2 (gst (tkk tb n) g0 T) (tkk tb n T); omega
      · omega
    have e5 : ¬ nI f = 0 := nI_ne0 (by omega) (by omega)
    refine ⟨im1, lm1, f, _, T, ?_, ⟨f, h2, Or.inl ⟨hf, rfl, rfl⟩⟩, hf5, h3, h4, h5, fun h => absurd h hf⟩
    simp (decide := true) only [QX4_faultOf, n1, h1, gm_cont_i, if_true, if_false, e5, not_false_eq_true]
/-! laws, as the program takes them -/
def cLR (im : gm_I) (st : Nat) (s : LW) : Prop := im 15 5 = nI (st + s.sn) ∧ im 15 6 = nI s.wn ∧ (∀ i, i < s.wn → im 20 i = nI (s.W i)) ∧ ∀ x, x < s.sn → im 16 (st + x) = nI (s.S x).1 ∧ (((s.S x).1 = 60 ∧ (s.S x).2 = 0) ∨ im 17 (st + x) = nI (if (s.S x).1 = 60 then st + (s.S x).2 else (s.S x).2))
theorem cLR_cg {im : gm_I} {st : Nat} {s s' : LW} (h : cLR im st s) (h1 : s'.sn = s.sn) (h2 : s'.wn = s.wn) (h3 : s'.W = s.W) (h4 : s'.S = s.S) : cLR im st s' := by
  unfold cLR
  rw [h1, h2, h3, h4]
  exact h
def Lk (st : Nat) (im im' : gm_I) : Prop := Fr [15, 16, 17, 20] im im' ∧ ∀ y, y < st → im' 16 y = im 16 y ∧ im' 17 y = im 17 y
theorem Lk.rf (st : Nat) (im : gm_I) : Lk st im im := ⟨Fr.rf _ _, fun _ _ => ⟨rfl, rfl⟩⟩
theorem Lk.tr {st : Nat} {a b c : gm_I} (h : Lk st a b) (k : Lk st b c) : Lk st a c := ⟨h.1.tr k.1, fun y hy => ⟨(k.2 y hy).1.trans (h.2 y hy).1, (k.2 y hy).2.trans (h.2 y hy).2⟩⟩
def adM (im : gm_I) (z : Nat) (a b : Int32) : gm_I := gm_up (gm_up (gm_up im 16 z a) 17 z b) 15 5 (nI (z + 1))
theorem C_addStep {im : gm_I} {z : Nat} (h : im 15 5 = nI z) (hz : z < 406) (a b : Int32) (lm : gm_L) : gm_den 42 0 [.ref 15, .int a, .int b] [] 128 gm_RF im lm = some (none, 128, gm_RF, adM im z a b, lm) := by
  have c1 : ¬ (406 : Int32) ≤ nI z := nI_ge (b := 406) hz (by decide)
  have c2 : gm_in (nI z) 406 = true := gm_in_nI hz (by decide)
  have c3 : (nI z).toNatClampNeg = z := nI_clamp (by omega)
  have e1 : gm_up im 16 z a 15 5 = nI z := by rw [gu_ne (by decide)]; exact h
  have e2 : gm_up (gm_up im 16 z a) 17 z b 15 5 = nI z := by rw [gu_ne (by decide)]; exact e1
  unfold adM
  simp (decide := true) only [QX2_addStep, h, c1, c2, c3, e1, e2, if_true, if_false, nI_a1]
theorem cLR_add {im : gm_I} {st : Nat} {s : LW} (h : cLR im st s) {c : Nat × Nat} {b : Int32} (hb : (c.1 = 60 ∧ c.2 = 0) ∨ (¬ c.1 = 60 ∧ b = nI c.2)) : cLR (adM im (st + s.sn) (nI c.1) b) st (apS s c) ∧ Lk st im (adM im (st + s.sn) (nI c.1) b) := by
  obtain ⟨h1, h2, h3, h4⟩ := h
  unfold adM
  refine ⟨⟨gu_eq, ?_, fun i hi => ?_, fun x hx => ?_⟩, ((Fr.up1 (by decide)).up (by decide)).up (by decide), fun y hy => ⟨?_, ?_⟩⟩
  · rw [gu_nk (by decide), gu_ne (by decide), gu_ne (by decide)]; exact h2
  · rw [gu_ne (by decide), gu_ne (by decide), gu_ne (by decide)]; exact h3 i hi
  · have hx' : x < s.sn + 1 := hx
    have hS : (apS s c).S x = if x = s.sn then c else s.S x := rfl
    rw [hS]
    by_cases e : x = s.sn
    · subst e
      rw [if_pos rfl]
      refine ⟨?_, ?_⟩
      · rw [gu_ne (by decide), gu_ne (by decide)]; exact gu_eq
      · rcases hb with hb | ⟨hb, e⟩
        · exact Or.inl hb
        · refine Or.inr ?_
          rw [gu_ne (by decide), if_neg hb, gu_eq]; exact e
    · rw [if_neg e]
      have := h4 x (by omega)
      refine ⟨?_, ?_⟩
      · rw [gu_ne (by decide), gu_ne (by decide), gu_nk (by omega)]; exact this.1
      · rw [gu_ne (by decide), gu_nk (by omega), gu_ne (by decide)]; exact this.2
  · rw [gu_ne (by decide), gu_ne (by decide), gu_nk (by omega)]
  · rw [gu_ne (by decide), gu_nk (by omega), gu_ne (by decide)]
theorem C_rank {k : Nat} (hk : k < 148) (im : gm_I) (lm : gm_L) : gm_den 41 0 [.int (nI k)] [] 128 gm_RF im lm = some (some (.int (nI (rkC k))), 128, gm_RF, im, lm) := by
  unfold rkC
  by_cases h1 : k = 40
  · have e : nI k = 40 := by rw [h1]; rfl
    rw [if_pos h1]
    simp (decide := true) only [QX2_rank, e, if_true, if_false, not_true_eq_false]; rfl
  · have n1 : ¬ nI k = 40 := fun h => h1 ((nK_eq (by omega) (by decide)).mp h)
    rw [if_neg h1]
    by_cases h2 : k = 42
    · have e : nI k = 42 := by rw [h2]; rfl
      rw [if_pos h2]
      simp (decide := true) only [QX2_rank, e, if_true, if_false, not_true_eq_false]; rfl
    · have n2 : ¬ nI k = 42 := fun h => h2 ((nK_eq (by omega) (by decide)).mp h)
      rw [if_neg h2]
      by_cases h3 : k = 47
      · have e : nI k = 47 := by rw [h3]; rfl
        rw [if_pos h3]
        simp (decide := true) only [QX2_rank, e, if_true, if_false, not_true_eq_false]; rfl
      · have n3 : ¬ nI k = 47 := fun h => h3 ((nK_eq (by omega) (by decide)).mp h)
        rw [if_neg h3]
        simp (decide := true) only [QX2_rank, n1, n2, n3, if_true, if_false, not_false_eq_true]; rfl
theorem enS_opC {k : Nat} (h : k = 43 ∨ k = 45 ∨ k = 42 ∨ k = 47) : enS (opC k, 0) = (k, 0) := by
  rcases h with e | e | e | e <;> (subst e; rfl)
theorem stO_top {W : Nat → Nat} {n : Nat} (h : stO W (n + 1)) : W n = 40 ∨ W n = 43 ∨ W n = 45 ∨ W n = 42 ∨ W n = 47 := by
  rcases h.2 with e | ⟨e, -⟩
  · exact Or.inl e
  · exact Or.inr e
theorem C_release {r : Nat} (hr : 1 ≤ r) (hr2 : r ≤ 2) {st : Nat} (lm : gm_L) : ∀ (f : Nat) (s : LW) (im : gm_I), s.wn ≤ f → s.wn ≤ 400 → cLR im st s → stO s.W s.wn → st + s.sn + s.wn ≤ 406 → ∃ im', gm_den 40 0 [.ref 15, .int (nI r)] [] 128 gm_RF im lm = some (none, 128, gm_RF, im', lm) ∧ cLR im' st (relF r f s) ∧ Lk st im im' := by
  intro f
  induction f with
  | zero =>
    intro s im hf hw4 hL hst hz
    have e0 : im 15 6 ≤ 0 := by rw [hL.2.1, show s.wn = 0 by omega]; decide
    refine ⟨im, ?_, hL, Lk.rf _ _⟩
    rw [LX2_release_0]
    simp (decide := true) only [QX2_release, e0, if_true]
  | succ f ih =>
    intro s im hf hw4 hL hst hz
    simp only [relF]
    by_cases h0 : s.wn = 0
    · have e0 : im 15 6 ≤ 0 := by rw [hL.2.1, h0]; decide
      rw [if_neg (by omega)]
      refine ⟨im, ?_, hL, Lk.rf _ _⟩
      rw [LX2_release_0]
      simp (decide := true) only [QX2_release, e0, if_true]
    · obtain ⟨m, hm⟩ : ∃ m, s.wn = m + 1 := ⟨s.wn - 1, by omega⟩
      obtain ⟨l1, l2, l3, l4⟩ := hL
      have e0 : ¬ nI s.wn ≤ 0 := nI_nle (by omega) (by omega)
      have e1 : nI s.wn - 1 = nI m := by rw [nI_m1 (by omega), hm]; rfl
      have e2 : gm_in (nI m) 400 = true := gm_in_nI (by omega) (by decide)
      have e3 : (nI m).toNatClampNeg = m := nI_clamp (by omega)
      have e4 := l3 m (by omega)
      rw [hm] at hst
      have htop := stO_top hst
      have hWlt : s.W m < 148 := by omega
      have e5 := fun im => C_rank hWlt im lm
      have hrk := rkC_le (s.W m)
      rw [show s.wn - 1 = m by omega]
      by_cases hc : r ≤ rkC (s.W m)
      · have c1 : ¬ nI (rkC (s.W m)) < nI r := nI_nlt hc (by omega)
        have hop : s.W m = 43 ∨ s.W m = 45 ∨ s.W m = 42 ∨ s.W m = 47 := by
          rcases htop with e | e
          · rw [e] at hc
            have : rkC 40 = 0 := rfl
            omega
          · exact e
        rw [if_pos ⟨by omega, hc⟩]
        have hL1 : cLR (gm_up im 15 6 (nI m)) st (LW.mk s.W m s.C s.cn s.S s.sn s.li s.nb s.hs s.t0 s.t1 s.t2 s.t3 s.u s.v) := by
          refine ⟨?_, gu_eq, fun i hi => ?_, fun x hx => ?_⟩
          · rw [gu_nk (by decide)]; exact l1
          · rw [gu_ne (by decide)]; exact l3 i (by have : i < m := hi; omega)
          · rw [gu_ne (by decide), gu_ne (by decide)]; exact l4 x hx
        have ha := C_addStep (im := gm_up im 15 6 (nI m)) (z := st + s.sn) hL1.1 (by omega) (nI (s.W m)) 0 lm
        obtain ⟨q1, q2⟩ := cLR_add hL1 (c := (s.W m, 0)) (b := 0) (Or.inr ⟨by show ¬ s.W m = 60; omega, rfl⟩)
        change cLR (adM (gm_up im 15 6 (nI m)) (st + s.sn) (nI (s.W m)) 0) st _ at q1
        change Lk st (gm_up im 15 6 (nI m)) (adM (gm_up im 15 6 (nI m)) (st + s.sn) (nI (s.W m)) 0) at q2
        have hpop : cLR (adM (gm_up im 15 6 (nI m)) (st + s.sn) (nI (s.W m)) 0) st (popW s) := by
          refine cLR_cg q1 rfl ?_ rfl ?_
          · show s.wn - 1 = m; omega
          · show udN s.S s.sn (enS (opC (s.W (s.wn - 1)), 0)) = udN s.S s.sn (s.W m, 0)
            rw [show s.wn - 1 = m by omega, enS_opC hop]
        have hpw : (popW s).wn = m := by show s.wn - 1 = m; omega
        have hps : (popW s).sn = s.sn + 1 := rfl
        obtain ⟨im', i1, i2, i3⟩ := ih (popW s) _ (by rw [hpw]; omega) (by rw [hpw]; omega) hpop (by rw [hpw]; exact hst.1) (by rw [hpw, hps]; omega)
        have lk0 : Lk st im (gm_up im 15 6 (nI m)) := ⟨Fr.up1 (by decide), fun y hy => ⟨by rw [gu_ne (by decide)], by rw [gu_ne (by decide)]⟩⟩
        refine ⟨im', ?_, i2, lk0.tr (q2.tr i3)⟩
        have e6 : gm_up im 15 6 (nI m) 15 6 = nI m := gu_eq
        have e7 : gm_up im 15 6 (nI m) 20 m = nI (s.W m) := by rw [gu_ne (by decide)]; exact e4
        rw [← i1, LX2_release_0]
        simp (decide := true) only [QX2_release, l2, e0, e1, e2, e3, e4, e5, e6, e7, c1, if_true, if_false, gm_cont_i, ha, gm_cont_v]
      · have c1 : nI (rkC (s.W m)) < nI r := nI_lt (by omega) (by omega)
        rw [if_neg (by omega)]
        refine ⟨im, ?_, ⟨l1, l2, l3, l4⟩, Lk.rf _ _⟩
        rw [LX2_release_0]
        simp (decide := true) only [QX2_release, l2, e0, e1, e2, e3, e4, e5, c1, if_true, if_false, gm_cont_i]
