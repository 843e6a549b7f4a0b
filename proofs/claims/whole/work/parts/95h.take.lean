/-! a law is taken -/
def pdW (s : LW) (sc : Nat) : Prop := ∀ y, y < s.sn → (s.S y).1 = 60 → (s.S y).2 = 0 → sc = 3 ∧ y = s.li
theorem enS_n60 {c : Nat × Nat} (h : c.1 ≤ 5) : ¬ (enS c).1 = 60 := enS_60 c h
theorem opC_5 (k : Nat) : opC k ≤ 5 := by unfold opC; split; decide; split; decide; split <;> decide
theorem pdW_ap {s s' : LW} {sc : Nat} {c : Nat × Nat} (h : pdW s sc) (hn : s'.sn = s.sn + 1) (hS : s'.S = udN s.S s.sn c) (hc : ¬ c.1 = 60) (hl : s'.li = s.li) : pdW s' sc := by
  intro y hy h1 h2
  rw [hn] at hy
  rw [hS] at h1 h2
  rw [hl]
  unfold udN at h1 h2
  by_cases e : y = s.sn
  · rw [if_pos e] at h1; exact absurd h1 hc
  · rw [if_neg e] at h1 h2; exact h y (by omega) h1 h2
theorem pdW_rel (r sc : Nat) : ∀ (f : Nat) (s : LW), pdW s sc → pdW (relF r f s) sc ∧ (relF r f s).li = s.li := by
  intro f
  induction f with
  | zero => intro s h; exact ⟨h, rfl⟩
  | succ f ih =>
    intro s h
    simp only [relF]
    by_cases hc : 0 < s.wn ∧ r ≤ rkC (s.W (s.wn - 1))
    · rw [if_pos hc]
      obtain ⟨a, b⟩ := ih (popW s) (pdW_ap h rfl rfl (enS_n60 (opC_5 _)) rfl)
      exact ⟨a, b⟩
    · rw [if_neg hc]; exact ⟨h, rfl⟩
theorem pdW_no {s : LW} {sc sc' : Nat} (h : pdW s sc) (hn : ¬ sc = 3) : pdW s sc' := fun y hy h1 h2 => absurd (h y hy h1 h2).1 hn
theorem pdT {s : LW} {g : GS} {x k v : Nat} (h : pdW s g.sc) (hl : liP s g x) (hf : gf g k = 0) : (¬ k = 59 → pdW (lwT s k v) (gn g k).sc) ∧ (k = 59 → pdW (lwT s k v) 0) := by
  obtain ⟨i1, -⟩ := hl
  obtain ⟨r1, r2⟩ := pdW_rel 1 g.sc s.wn s h
  change pdW (rel 1 s) g.sc at r1
  change (rel 1 s).li = s.li at r2
  rcases i1 with w3 | w4
  · have hn : gn g k = if k = 136 then (GS.mk g.w g.nm g.it 1 g.op (g.fi + 1) g.tm) else if k = 40 then (GS.mk g.w g.nm g.it (if g.sc = 0 then 4 else g.sc) (g.op + 1) g.fi g.tm) else (GS.mk 4 g.nm g.it (if g.sc = 0 then 4 else g.sc) g.op g.fi g.tm) := by
      unfold gn; rw [if_neg (by omega), if_neg (by omega), if_neg (by omega), if_pos w3]
    have hg : gf g k = if k = 136 then (if g.sc = 0 then (if 4 ≤ g.fi then 2 else 0) else 1) else if k = 40 then (if 6 ≤ g.op then 2 else 0) else if k = 2 ∨ 139 ≤ k then 0 else 1 := by
      unfold gf; rw [if_neg (by omega), if_neg (by omega), if_neg (by omega), if_pos w3]
    rw [hg] at hf
    rw [hn]
    have h4 : pdW s (if g.sc = 0 then 4 else g.sc) := by
      by_cases e : g.sc = 0
      · exact pdW_no h (by omega)
      · rw [if_neg e]; exact h
    by_cases k1 : k = 136
    · subst k1
      have s0 : g.sc = 0 := by apply Classical.byContradiction; intro e; rw [if_pos rfl, if_neg e] at hf; cases hf
      refine ⟨fun _ => ?_, fun e => by cases e⟩
      rw [if_pos rfl]
      unfold lwT
      simp (decide := true) only [if_true, if_false]
      exact pdW_no h (by omega)
    · rw [if_neg k1] at hf
      rw [if_neg k1]
      by_cases k2 : k = 40
      · subst k2
        refine ⟨fun _ => ?_, fun e => by cases e⟩
        rw [if_pos rfl]
        unfold lwT
        simp (decide := true) only [if_true, if_false]
        exact h4
      · rw [if_neg k2] at hf
        rw [if_neg k2]
        have k3 : k = 2 ∨ 139 ≤ k := by apply Classical.byContradiction; intro e; rw [if_neg e] at hf; cases hf
        refine ⟨fun _ => ?_, fun e => by omega⟩
        unfold lwT
        rcases k3 with e | e
        · rw [if_pos e]
          exact pdW_ap h4 rfl rfl (enS_n60 (by show 0 ≤ 5; decide)) rfl
        · rw [if_neg (by omega), if_pos e]
          exact pdW_ap h4 rfl rfl (enS_n60 (by show 1 ≤ 5; decide)) rfl
  · have hn : gn g k = cond (gOpr k) (GS.mk 3 g.nm g.it g.sc g.op g.fi g.tm) (if 0 < g.op then (GS.mk g.w g.nm g.it g.sc (g.op - 1) g.fi g.tm) else if g.sc = 1 then (GS.mk 3 g.nm g.it 2 g.op g.fi g.tm) else if g.sc = 2 then (GS.mk 3 g.nm g.it 3 g.op g.fi g.tm) else if g.sc = 3 then (GS.mk 3 g.nm g.it 0 g.op g.fi g.tm) else (GS.mk 0 g.nm g.it g.sc g.op g.fi g.tm)) := by
      unfold gn; rw [if_neg (by omega), if_neg (by omega), if_neg (by omega), if_neg (by omega)]
    have hg : gf g k = cond (gOpr k) 0 (if 0 < g.op then (if k = 41 then 0 else 1) else if k = gCls g.sc then 0 else 1) := by
      unfold gf; rw [if_neg (by omega), if_neg (by omega), if_neg (by omega), if_neg (by omega)]
    rw [hg] at hf
    rw [hn]
    cases ho : gOpr k with
    | true =>
      have hop : k = 43 ∨ k = 45 ∨ k = 42 ∨ k = 47 := by
        unfold gOpr at ho
        simp only [Bool.or_eq_true, beq_iff_eq] at ho
        omega
      refine ⟨fun _ => ?_, fun e => by omega⟩
      have e1 : lwT s k v = psW (rel (rkC k) s) k := by
        unfold lwT
        rcases hop with e | e | e | e <;> (subst e; simp (decide := true) only [if_true, if_false])
      rw [e1]
      exact (pdW_rel (rkC k) g.sc s.wn s h).1
    | false =>
      rw [ho] at hf
      simp only [cond_false] at hf ⊢
      by_cases hop : 0 < g.op
      · rw [if_pos hop] at hf ⊢
        have k41 : k = 41 := by apply Classical.byContradiction; intro e; rw [if_neg e] at hf; cases hf
        subst k41
        refine ⟨fun _ => ?_, fun e => by cases e⟩
        have e1 : lwT s 41 v = (LW.mk (rel 1 s).W ((rel 1 s).wn - 1) (rel 1 s).C (rel 1 s).cn (rel 1 s).S (rel 1 s).sn (rel 1 s).li (rel 1 s).nb (rel 1 s).hs (rel 1 s).t0 (rel 1 s).t1 (rel 1 s).t2 (rel 1 s).t3 (rel 1 s).u (rel 1 s).v) := by unfold lwT; simp (decide := true) only [if_true, if_false]
        rw [e1]
        exact r1
      · rw [if_neg hop] at hf ⊢
        have hc : k = gCls g.sc := by apply Classical.byContradiction; intro e; rw [if_neg e] at hf; cases hf
        unfold gCls at hc
        by_cases c1 : g.sc = 1
        · rw [if_pos c1] at hc ⊢
          subst hc
          refine ⟨fun _ => ?_, fun e => by cases e⟩
          unfold lwT
          simp (decide := true) only [if_true, if_false]
          exact pdW_no r1 (by omega)
        · rw [if_neg c1] at hc ⊢
          by_cases c2 : g.sc = 2
          · rw [if_pos c2] at hc ⊢
            subst hc
            refine ⟨fun _ => ?_, fun e => by cases e⟩
            unfold lwT
            simp (decide := true) only [if_true, if_false]
            intro y hy h1 h2
            have hy' : y < (rel 1 s).sn + 1 := hy
            change (udN (rel 1 s).S (rel 1 s).sn (60, 0) y).1 = 60 at h1
            change (udN (rel 1 s).S (rel 1 s).sn (60, 0) y).2 = 0 at h2
            refine ⟨rfl, ?_⟩
            show y = (rel 1 s).sn
            apply Classical.byContradiction
            intro hne
            unfold udN at h1 h2
            rw [if_neg hne] at h1 h2
            have := (r1 y (by omega) h1 h2).1
            omega
          · rw [if_neg c2] at hc ⊢
            by_cases c3 : g.sc = 3
            · rw [if_pos c3] at hc ⊢
              subst hc
              refine ⟨fun _ => ?_, fun e => by cases e⟩
              unfold lwT
              simp (decide := true) only [if_true, if_false]
              intro y hy h1 h2
              have hy' : y < (rel 1 s).sn + 1 := hy
              change (udN (udN (rel 1 s).S (rel 1 s).sn (2, 0)) s.li (60, (rel 1 s).sn + 1) y).1 = 60 at h1
              change (udN (udN (rel 1 s).S (rel 1 s).sn (2, 0)) s.li (60, (rel 1 s).sn + 1) y).2 = 0 at h2
              exfalso
              unfold udN at h1 h2
              by_cases e : y = s.li
              · rw [if_pos e] at h2; cases h2
              · rw [if_neg e] at h1 h2
                by_cases e2 : y = (rel 1 s).sn
                · rw [if_pos e2] at h1; cases h1
                · rw [if_neg e2] at h1 h2
                  have := (r1 y (by omega) h1 h2).2
                  rw [r2] at this
                  exact e this
            · rw [if_neg c3] at hc ⊢
              subst hc
              refine ⟨fun e => absurd rfl e, fun _ => ?_⟩
              unfold lwT
              simp (decide := true) only [if_true, if_false]
              exact pdW_ap (s := rel 1 s) (c := (2, 0)) (pdW_no r1 (by omega)) rfl rfl (by decide) rfl
section
variable {im : gm_I} {st : Nat} {s : LW}
theorem cLR_up {im' : gm_I} (h : cLR im st s) (e1 : im' 15 5 = im 15 5) (e2 : im' 15 6 = im 15 6) (e3 : im' 20 = im 20) (e4 : im' 16 = im 16) (e5 : im' 17 = im 17) : cLR im' st s := by
  unfold cLR
  rw [e1, e2, e3, e4, e5]
  exact h
theorem C_sign {g : GS} {x k v : Nat} (hL : cLR im st s) (hl : liP s g x) (hf : gf g k = 0) (hk : k < 148) (hb : st + x ≤ 405) (hx : x < 400) (hn : ¬ (k = 2 ∨ 139 ≤ k ∨ k = 137 ∨ k = 138 ∨ k = 59)) (lm : gm_L) : ∃ im', gm_den 39 0 [.ref 15, .int (nI k)] [] 128 gm_RF im lm = some (none, 128, gm_RF, im', lm) ∧ cLR im' st (lwT s k v) ∧ Lk st im im' := by
  obtain ⟨i1, ⟨ps, i2, i3⟩, ⟨i41, i42, i43⟩, ⟨i5, i6, i7⟩, i8, i9, i10⟩ := hl
  have nk : ∀ c, c < 1000 → ¬ k = c → ¬ nI k = nI c := fun c hc h e => h ((nK_eq (by omega) hc).mp e)
  have hwx : s.wn ≤ x := by omega
  have psh : ∀ (z : LW) (J : gm_I), cLR J st z → z.wn < 400 → ∃ im', gm_den 39 63 [.ref 15, .int (nI k)] [] 128 gm_RF J lm = some (none, 128, gm_RF, im', lm) ∧ cLR im' st (psW z k) ∧ Lk st J im' := by
    intro z J hz hzw
    obtain ⟨l1, l2, l3, l4⟩ := hz
    have c1 : ¬ (400 : Int32) ≤ nI z.wn := nI_ge (b := 400) hzw (by decide)
    have c2 : gm_in (nI z.wn) 400 = true := gm_in_nI hzw (by decide)
    have c3 : (nI z.wn).toNatClampNeg = z.wn := nI_clamp (by omega)
    have e1 : gm_up J 20 z.wn (nI k) 15 6 = nI z.wn := by rw [gu_ne (by decide)]; exact l2
    refine ⟨gm_up (gm_up J 20 z.wn (nI k)) 15 6 (nI (z.wn + 1)), ?_, ⟨?_, gu_eq, fun i hi => ?_, fun y hy => ?_⟩, (Fr.up1 (by decide)).up (by decide), fun y hy => ⟨?_, ?_⟩⟩
    · simp (decide := true) only [QX2_takeSign, l2, c1, c2, c3, e1, if_true, if_false, nI_a1]
    · rw [gu_nk (by decide), gu_ne (by decide)]; exact l1
    · have hi' : i < z.wn + 1 := hi
      show _ = nI (udN z.W z.wn k i)
      unfold udN
      by_cases e : i = z.wn
      · rw [if_pos e, e, gu_ne (by decide)]; exact gu_eq
      · rw [if_neg e, gu_ne (by decide), gu_nk e]; exact l3 i (by omega)
    · rw [gu_ne (by decide), gu_ne (by decide), gu_ne (by decide), gu_ne (by decide)]; exact l4 y hy
    · rw [gu_ne (by decide), gu_ne (by decide)]
    · rw [gu_ne (by decide), gu_ne (by decide)]
  by_cases k60 : k = 60
  · subst k60
    obtain ⟨im', h1, h2, h3⟩ := C_release (r := 1) (by decide) (by decide) (st := st) lm s.wn s im (Nat.le_refl _) (by omega) hL i41 (by omega)
    have e1 : lwT s 60 v = (LW.mk (rel 1 s).W (rel 1 s).wn (rel 1 s).C (rel 1 s).cn (rel 1 s).S (rel 1 s).sn (rel 1 s).li (rel 1 s).nb (rel 1 s).hs (rel 1 s).t0 (udN s.t1 s.nb (rel 1 s).cn) (rel 1 s).t2 (rel 1 s).t3 (rel 1 s).u (rel 1 s).v) := by unfold lwT; simp (decide := true) only [if_true, if_false]
    refine ⟨im', ?_, by rw [e1]; exact cLR_cg h2 rfl rfl rfl rfl, h3⟩
    have z1 : nI 1 = 1 := rfl
    rw [z1] at h1
    simp (decide := true) only [QX2_takeSign, if_true, if_false, h1, gm_cont_v]
  · by_cases k41 : k = 41
    · subst k41
      obtain ⟨im', h1, h2, h3⟩ := C_release (r := 1) (by decide) (by decide) (st := st) lm s.wn s im (Nat.le_refl _) (by omega) hL i41 (by omega)
      have e1 : lwT s 41 v = (LW.mk (rel 1 s).W ((rel 1 s).wn - 1) (rel 1 s).C (rel 1 s).cn (rel 1 s).S (rel 1 s).sn (rel 1 s).li (rel 1 s).nb (rel 1 s).hs (rel 1 s).t0 (rel 1 s).t1 (rel 1 s).t2 (rel 1 s).t3 (rel 1 s).u (rel 1 s).v) := by unfold lwT; simp (decide := true) only [if_true, if_false]
      change cLR im' st (rel 1 s) at h2
      have hwr : (rel 1 s).wn ≤ s.wn := by
        have : ∀ (f : Nat) (z : LW), (relF 1 f z).wn ≤ z.wn := by
          intro f
          induction f with
          | zero => intro z; exact Nat.le_refl _
          | succ f ih => intro z; simp only [relF]; split; exact Nat.le_trans (ih (popW z)) (by show z.wn - 1 ≤ z.wn; omega); exact Nat.le_refl _
        exact this s.wn s
      have hmx : (if (0 : Int32) < im' 15 6 - 1 then im' 15 6 - 1 else 0) = nI ((rel 1 s).wn - 1) := by
        rw [h2.2.1]
        by_cases e : (rel 1 s).wn = 0
        · rw [e]; decide
        · rw [nI_m1 (by omega)]
          by_cases e2 : (rel 1 s).wn = 1
          · rw [e2]; decide
          · have hp : (0 : Int32) < nI ((rel 1 s).wn - 1) := nI_lt (a := 0) (b := (rel 1 s).wn - 1) (by omega) (by omega)
            rw [if_pos hp]
      refine ⟨gm_up im' 15 6 (nI ((rel 1 s).wn - 1)), ?_, ?_, h3.tr ⟨Fr.up1 (by decide), fun y hy => ⟨by rw [gu_ne (by decide)], by rw [gu_ne (by decide)]⟩⟩⟩
      · have z1 : nI 1 = 1 := rfl
        rw [z1] at h1
        rw [← hmx]
        simp (decide := true) only [QX2_takeSign, if_true, if_false, h1, gm_cont_v, not_false_eq_true, not_true_eq_false]
      · rw [e1]
        obtain ⟨l1, l2, l3, l4⟩ := h2
        refine ⟨?_, gu_eq, fun i hi => ?_, fun y hy => ?_⟩
        · rw [gu_nk (by decide)]; exact l1
        · rw [gu_ne (by decide)]; exact l3 i (by have : i < (rel 1 s).wn - 1 := hi; omega)
        · rw [gu_ne (by decide), gu_ne (by decide)]; exact l4 y hy
    · by_cases k136 : k = 136
      · subst k136
        have e1 : lwT s 136 v = (LW.mk s.W s.wn s.C s.cn s.S s.sn s.li s.nb (udN s.hs s.nb 1) (udN s.t0 s.nb s.cn) s.t1 s.t2 s.t3 s.u s.v) := by unfold lwT; simp (decide := true) only [if_true, if_false]
        refine ⟨im, ?_, by rw [e1]; exact cLR_cg hL rfl rfl rfl rfl, Lk.rf _ _⟩
        simp (decide := true) only [QX2_takeSign, if_true, if_false, not_false_eq_true]
      · have n1 : ¬ nI k = 60 := nk 60 (by decide) k60
        have n2 : ¬ nI k = 41 := nk 41 (by decide) k41
        have n3 : ¬ nI k = 136 := nk 136 (by decide) k136
        by_cases k40 : k = 40
        · obtain ⟨im', h1, h2, h3⟩ := psh s im hL (by omega)
          have e1 : lwT s k v = psW s k := by subst k40; unfold lwT; simp (decide := true) only [if_true, if_false]
          have n4 : nI k = 40 := by rw [k40]; rfl
          refine ⟨im', ?_, by rw [e1]; exact h2, h3⟩
          rw [← h1]
          simp (decide := true) only [QX2_takeSign, n1, n2, n3, n4, if_true, if_false, not_false_eq_true]
        · have hop : k = 43 ∨ k = 45 ∨ k = 42 ∨ k = 47 := by
            rcases i1 with w3 | w4
            · exfalso
              unfold gf at hf
              rw [if_neg (by omega), if_neg (by omega), if_neg (by omega), if_pos w3, if_neg k136, if_neg k40, if_neg (by omega)] at hf
              cases hf
            · unfold gf at hf
              rw [if_neg (by omega), if_neg (by omega), if_neg (by omega), if_neg (by omega)] at hf
              cases ho : gOpr k with
              | true =>
                unfold gOpr at ho
                simp only [Bool.or_eq_true, beq_iff_eq] at ho
                omega
              | false =>
                rw [ho, cond_false] at hf
                exfalso
                by_cases hp : 0 < g.op
                · rw [if_pos hp, if_neg k41] at hf; cases hf
                · rw [if_neg hp] at hf
                  have : k = gCls g.sc := by apply Classical.byContradiction; intro e; rw [if_neg e] at hf; cases hf
                  unfold gCls at this
                  split at this
                  · exact k60 this
                  · split at this
                    · omega
                    · split at this <;> omega
          have e1 : lwT s k v = psW (rel (rkC k) s) k := by
            unfold lwT
            rcases hop with e | e | e | e <;> (subst e; simp (decide := true) only [if_true, if_false])
          have hrk : 1 ≤ rkC k := by rcases hop with e | e | e | e <;> (subst e; decide)
          obtain ⟨J, h1, h2, h3⟩ := C_release hrk (rkC_le k) (st := st) lm s.wn s im (Nat.le_refl _) (by omega) hL i41 (by omega)
          change cLR J st (rel (rkC k) s) at h2
          have hwr : (rel (rkC k) s).wn ≤ s.wn := by
            have : ∀ (f : Nat) (z : LW), (relF (rkC k) f z).wn ≤ z.wn := by
              intro f
              induction f with
              | zero => intro z; exact Nat.le_refl _
              | succ f ih => intro z; simp only [relF]; split; exact Nat.le_trans (ih (popW z)) (by show z.wn - 1 ≤ z.wn; omega); exact Nat.le_refl _
            exact this s.wn s
          obtain ⟨im', h4, h5, h6⟩ := psh (rel (rkC k) s) J h2 (by omega)
          have n4 : ¬ nI k = 40 := nk 40 (by decide) k40
          refine ⟨im', ?_, by rw [e1]; exact h5, h3.tr h6⟩
          rw [← h4]
          simp (decide := true) only [QX2_takeSign, n1, n2, n3, n4, if_true, if_false, not_false_eq_true, C_rank hk, gm_cont_i, h1, gm_cont_v]
end
theorem C_take_loop {lm : gm_L} {K V P : Nat → Nat} {N : Nat} (h4 : N ≤ 400) (hK : ∀ t, K t < 148) (hV2 : ∀ t, K t = 2 → V t ≤ 9999) (hok : okT K g0 N) {a e : Nat} (he : e < N) (hke : K e = 59) (hne : ∀ y, a ≤ y → y < e → ¬ K y = 59) (g3 : (gst K g0 a).w = 3) (gs0 : (gst K g0 a).sc = 0) (go : (gst K g0 a).op = 0) {st : Nat} (hst : st ≤ a + 4) (x1 x3 : Int32) : ∀ (w x : Nat) (im : gm_I) (x4 : Int32) (x6 : Value), a + x + w = e → tokR im lm K V P N → cLR im st (lwR K V a x) → pdW (lwR K V a x) (gst K g0 (a + x)).sc → ((gst K g0 (a + x)).sc = 3 → x4 = nI (st + (lwR K V a x).li)) → x6.category = 1 → ∃ im', gm_den 38 21 [.ref 15, .int x1, .ref 7, .int x3, .int x4, .int (nI (a + x)), x6] [] 128 gm_RF im lm = some (none, 128, gm_RF, im', lm) ∧ cLR im' st (lwR K V a (e - a + 1)) ∧ pdW (lwR K V a (e - a + 1)) 0 ∧ Lk st im im' := by
  intro w
  induction w with
  | zero =>
    intro x im x4 x6 hx hT hL hP hli c6
    have hxe : a + x = e := by omega
    have hokx := okT_le hok (show a + x ≤ N by omega)
    obtain ⟨hl, -⟩ := law_go (V := V) hK hV2 g3 gs0 go x hokx (fun y hy => hne _ (by omega) (by omega))
    have hf := (hok.2 (a + x) (by omega)).2
    have hlt : ¬ nI N ≤ nI (a + x) := nI_ge (by omega) (by omega)
    have hkd := C_kindAt hT h4 (x := a + x) (by omega)
    rw [show e - a + 1 = x + 1 by omega]
    have eR : lwR K V a (x + 1) = lwT (lwR K V a x) (K (a + x)) (V (a + x)) := rfl
    have hpd := (pdT (v := V (a + x)) hP hl hf).2 (by rw [hxe]; exact hke)
    rw [eR]
    have hk59 : K (a + x) = 59 := by rw [hxe]; exact hke
    have e59 : nI (K (a + x)) = 59 := by rw [hk59]; rfl
    obtain ⟨-, -, ⟨i41, -, -⟩, ⟨i5, i6, -⟩, -⟩ := hl
    obtain ⟨J, h1, h2, h3⟩ := C_release (r := 1) (by decide) (by decide) (st := st) lm (lwR K V a x).wn (lwR K V a x) im (Nat.le_refl _) (by omega) hL i41 (by omega)
    change cLR J st (rel 1 (lwR K V a x)) at h2
    have hsr : (rel 1 (lwR K V a x)).sn ≤ x := by
      have : ∀ (f : Nat) (z : LW), (relF 1 f z).sn + (relF 1 f z).wn = z.sn + z.wn := by
        intro f
        induction f with
        | zero => intro z; rfl
        | succ f ih =>
          intro z
          simp only [relF]
          split
          · rename_i hc
            rw [ih (popW z)]
            show z.sn + 1 + (z.wn - 1) = _
            omega
          · rfl
      have := this (lwR K V a x).wn (lwR K V a x)
      change (rel 1 (lwR K V a x)).sn + (rel 1 (lwR K V a x)).wn = _ at this
      omega
    have ha := C_addStep h2.1 (by omega) 2 0 lm
    obtain ⟨q1, q2⟩ := cLR_add h2 (c := (2, 0)) (b := 0) (Or.inr ⟨by decide, rfl⟩)
    refine ⟨_, ?_, ?_, hpd, h3.tr q2⟩
    · have z1 : nI 1 = 1 := rfl
      rw [z1] at h1
      rw [LX2_take_21]
      simp (decide := true) only [QX2_take, hT.1, hlt, hkd, gm_cont_i, e59, c6, if_true, if_false, not_false_eq_true, not_true_eq_false, h1, gm_cont_v, ha]
      rfl
    · rw [hk59]
      unfold lwT
      simp (decide := true) only [if_true, if_false]
      exact cLR_cg q1 rfl rfl rfl rfl
  | succ w ih =>
    intro x im x4 x6 hx hT hL hP hli c6
    have hokx := okT_le hok (show a + x ≤ N by omega)
    obtain ⟨hl, -⟩ := law_go (V := V) hK hV2 g3 gs0 go x hokx (fun y hy => hne _ (by omega) (by omega))
    have hf := (hok.2 (a + x) (by omega)).2
    have hlt : ¬ nI N ≤ nI (a + x) := nI_ge (by omega) (by omega)
    have hkd := C_kindAt hT h4 (x := a + x) (by omega)
    have eR : lwR K V a (x + 1) = lwT (lwR K V a x) (K (a + x)) (V (a + x)) := rfl
    have eG : gst K g0 (a + (x + 1)) = gn (gst K g0 (a + x)) (K (a + x)) := rfl
    have hn59 : ¬ K (a + x) = 59 := hne _ (by omega) (by omega)
    have hpd := (pdT (v := V (a + x)) hP hl hf).1 hn59
    rw [← eR, ← eG] at hpd
    have hkx := hK (a + x)
    have nk : ∀ c, c < 1000 → ¬ K (a + x) = c → ¬ nI (K (a + x)) = nI c := fun c hc h e => h ((nK_eq (by omega) hc).mp e)
    have hl2 := hl
    obtain ⟨i1, -, ⟨i41, -, -⟩, ⟨i5, i6, -⟩, -⟩ := hl2
    have tk : ∀ {J : gm_I}, Lk st im J → tokR J lm K V P N := fun {J} hJ => by
      unfold tokR
      rw [hJ.1 7 (by decide), hJ.1 8 (by decide), hJ.1 10 (by decide)]
      exact hT
    have ea : nI (a + x) + 1 = nI (a + (x + 1)) := nI_a1 (a + x)
    -- the part stays unless a token closes it
    have hsc : ¬ K (a + x) = 137 → ¬ K (a + x) = 138 → (gst K g0 (a + (x + 1))).sc = 3 → (gst K g0 (a + x)).sc = 3 := by
      intro n1 n2 h
      rw [eG] at h
      unfold gn at h
      rw [if_neg (by omega), if_neg (by omega), if_neg (by omega)] at h
      rcases i1 with w3 | w4
      · rw [if_pos w3] at h
        by_cases c1 : K (a + x) = 136
        · rw [if_pos c1, GS_sc] at h; cases h
        · rw [if_neg c1] at h
          by_cases c2 : K (a + x) = 40
          · rw [if_pos c2, GS_sc] at h
            by_cases c3 : (gst K g0 (a + x)).sc = 0
            · rw [if_pos c3] at h; cases h
            · rw [if_neg c3] at h; exact h
          · rw [if_neg c2, GS_sc] at h
            by_cases c3 : (gst K g0 (a + x)).sc = 0
            · rw [if_pos c3] at h; cases h
            · rw [if_neg c3] at h; exact h
      · rw [if_neg (by omega)] at h
        unfold gf at hf
        rw [if_neg (by omega), if_neg (by omega), if_neg (by omega), if_neg (by omega)] at hf
        cases ho : gOpr (K (a + x)) with
        | true => rw [ho, cond_true, GS_sc] at h; exact h
        | false =>
          rw [ho, cond_false] at h hf
          by_cases c1 : 0 < (gst K g0 (a + x)).op
          · rw [if_pos c1, GS_sc] at h; exact h
          · rw [if_neg c1] at h hf
            have hc : K (a + x) = gCls (gst K g0 (a + x)).sc := by apply Classical.byContradiction; intro e; rw [if_neg e] at hf; cases hf
            unfold gCls at hc
            by_cases c2 : (gst K g0 (a + x)).sc = 1
            · rw [if_pos c2, GS_sc] at h; cases h
            · rw [if_neg c2] at h hc
              by_cases c3 : (gst K g0 (a + x)).sc = 2
              · rw [if_pos c3] at hc; exact absurd hc n1
              · rw [if_neg c3] at h hc
                by_cases c4 : (gst K g0 (a + x)).sc = 3
                · exact c4
                · rw [if_neg c4, GS_sc] at h; exact h
    have hrl : ∀ (r f : Nat) (z : LW), (relF r f z).li = z.li := by
      intro r f
      induction f with
      | zero => intro z; rfl
      | succ f ihf => intro z; simp only [relF]; split; exact ihf (popW z); rfl
    have hrs : ∀ (f : Nat) (z : LW), (relF 1 f z).sn + (relF 1 f z).wn = z.sn + z.wn := by
      intro f
      induction f with
      | zero => intro z; rfl
      | succ f ihf =>
        intro z
        simp only [relF]
        split
        · rename_i hc
          rw [ihf (popW z)]
          show z.sn + 1 + (z.wn - 1) = _
          omega
        · rfl
    have hli2 : ¬ K (a + x) = 137 → ¬ K (a + x) = 138 → (lwR K V a (x + 1)).li = (lwR K V a x).li := by
      intro n1 n2
      rw [eR]
      unfold lwT
      rw [if_neg n1, if_neg n2, if_neg hn59]
      split
      · rfl
      · split
        · rfl
        · split
          · exact hrl 1 _ _
          · split
            · exact hrl 1 _ _
            · split
              · rfl
              · split
                · rfl
                · exact hrl _ _ _
    by_cases k2 : K (a + x) = 2
    · have e2 : nI (K (a + x)) = 2 := by rw [k2]; rfl
      have hv := C_valueAt hT h4 (x := a + x) (by omega)
      have hv9 := hV2 _ k2
      have hvi : (Int64.ofNat (V (a + x))).toInt32 = nI (V (a + x)) := i64_i32 (by omega)
      have ha := C_addStep hL.1 (by omega) 0 (nI (V (a + x))) lm
      obtain ⟨q1, q2⟩ := cLR_add hL (c := (0, V (a + x))) (b := nI (V (a + x))) (Or.inr ⟨by show ¬ 0 = 60; decide, rfl⟩)
      have hT' : lwT (lwR K V a x) (K (a + x)) (V (a + x)) = apC (lwR K V a x) (0, V (a + x)) := by unfold lwT; rw [if_pos k2]
      obtain ⟨im', j1, j2⟩ := ih (x + 1) _ x4 (.int (nI (K (a + x)))) (by omega) (tk q2) (by rw [eR, hT']; exact cLR_cg q1 rfl rfl rfl rfl) hpd (fun h => by rw [hli2 (by omega) (by omega)]; exact hli (hsc (by omega) (by omega) h)) rfl
      refine ⟨im', ?_, j2.1, j2.2.1, q2.tr j2.2.2⟩
      rw [← j1, LX2_take_21]
      simp (decide := true) only [QX2_take, hT.1, hlt, hkd, gm_cont_i, gm_cont_l, e2, c6, if_true, if_false, not_true_eq_false, hv, hvi, ha, gm_cont_v, ea]
      rfl
    · have n2 : ¬ nI (K (a + x)) = 2 := nk 2 (by decide) k2
      by_cases k139 : 139 ≤ K (a + x)
      · have e2 : ¬ nI (K (a + x)) < 139 := nI_nlt (b := 139) k139 (by omega)
        have e3 : nI (K (a + x)) - 139 = nI (K (a + x) - 139) := by rw [show (139 : Int32) = nI 139 from rfl, nI_sub k139]
        have ha := C_addStep hL.1 (by omega) 1 (nI (K (a + x) - 139)) lm
        obtain ⟨q1, q2⟩ := cLR_add hL (c := (1, K (a + x) - 139)) (b := nI (K (a + x) - 139)) (Or.inr ⟨by show ¬ 1 = 60; decide, rfl⟩)
        have hT' : lwT (lwR K V a x) (K (a + x)) (V (a + x)) = apC (lwR K V a x) (1, K (a + x) - 139) := by unfold lwT; rw [if_neg k2, if_pos k139]
        obtain ⟨im', j1, j2⟩ := ih (x + 1) _ x4 (.int (nI (K (a + x)))) (by omega) (tk q2) (by rw [eR, hT']; exact cLR_cg q1 rfl rfl rfl rfl) hpd (fun h => by rw [hli2 (by omega) (by omega)]; exact hli (hsc (by omega) (by omega) h)) rfl
        refine ⟨im', ?_, j2.1, j2.2.1, q2.tr j2.2.2⟩
        rw [← j1, LX2_take_21]
        simp (decide := true) only [QX2_take, hT.1, hlt, hkd, gm_cont_i, n2, e2, e3, c6, if_true, if_false, not_false_eq_true, ha, gm_cont_v, ea]
        rfl
      · have e139 : nI (K (a + x)) < 139 := nI_lt (b := 139) (by omega) (by decide)
        have hsr := hrs (lwR K V a x).wn (lwR K V a x)
        change (rel 1 (lwR K V a x)).sn + (rel 1 (lwR K V a x)).wn = _ at hsr
        have z1 : nI 1 = 1 := rfl
        by_cases k137 : K (a + x) = 137
        · have e2 : nI (K (a + x)) = 137 := by rw [k137]; rfl
          obtain ⟨J, h1, h2, h3⟩ := C_release (r := 1) (by decide) (by decide) (st := st) lm (lwR K V a x).wn (lwR K V a x) im (Nat.le_refl _) (by omega) hL i41 (by omega)
          change cLR J st (rel 1 (lwR K V a x)) at h2
          have ha := C_addStep h2.1 (by omega) 60 0 lm
          obtain ⟨q1, q2⟩ := cLR_add h2 (c := (60, 0)) (b := 0) (Or.inl ⟨rfl, rfl⟩)
          have hT' : lwT (lwR K V a x) (K (a + x)) (V (a + x)) = apS (LW.mk (rel 1 (lwR K V a x)).W (rel 1 (lwR K V a x)).wn (rel 1 (lwR K V a x)).C (rel 1 (lwR K V a x)).cn (rel 1 (lwR K V a x)).S (rel 1 (lwR K V a x)).sn (rel 1 (lwR K V a x)).sn (rel 1 (lwR K V a x)).nb (rel 1 (lwR K V a x)).hs (rel 1 (lwR K V a x)).t0 (rel 1 (lwR K V a x)).t1 (udN (rel 1 (lwR K V a x)).t2 (lwR K V a x).nb (rel 1 (lwR K V a x)).cn) (rel 1 (lwR K V a x)).t3 (rel 1 (lwR K V a x)).u (rel 1 (lwR K V a x)).v) (60, 0) := by unfold lwT; rw [if_neg k2, if_neg k139, if_pos k137]
          obtain ⟨im', j1, j2⟩ := ih (x + 1) _ (nI (st + (rel 1 (lwR K V a x)).sn)) (.int (nI (K (a + x)))) (by omega) (tk (h3.tr q2)) (by rw [eR, hT']; exact cLR_cg q1 rfl rfl rfl rfl) hpd (fun h => by rw [eR, hT']; rfl) rfl
          refine ⟨im', ?_, j2.1, j2.2.1, (h3.tr q2).tr j2.2.2⟩
          rw [z1] at h1
          rw [← j1, LX2_take_21]
          simp (decide := true) only [QX2_take, hT.1, hlt, hkd, gm_cont_i, e2, c6, if_true, if_false, not_false_eq_true, not_true_eq_false, h1, h2.1, ha, gm_cont_v, ea]
          rfl
        · have n137 : ¬ nI (K (a + x)) = 137 := nk 137 (by decide) k137
          by_cases k138 : K (a + x) = 138
          · have e2 : nI (K (a + x)) = 138 := by rw [k138]; rfl
            have hsc3 : (gst K g0 (a + x)).sc = 3 := by
              rcases i1 with w3 | w4
              · exfalso
                unfold gf at hf
                rw [if_neg (by omega), if_neg (by omega), if_neg (by omega), if_pos w3, if_neg (by omega), if_neg (by omega), if_neg (by omega)] at hf
                cases hf
              · unfold gf at hf
                rw [if_neg (by omega), if_neg (by omega), if_neg (by omega), if_neg (by omega)] at hf
                have ho : gOpr (K (a + x)) = false := by rw [k138]; rfl
                rw [ho, cond_false] at hf
                by_cases c1 : 0 < (gst K g0 (a + x)).op
                · rw [if_pos c1, if_neg (by omega)] at hf; cases hf
                · rw [if_neg c1] at hf
                  have hc : K (a + x) = gCls (gst K g0 (a + x)).sc := by apply Classical.byContradiction; intro e; rw [if_neg e] at hf; cases hf
                  rw [k138] at hc
                  unfold gCls at hc
                  apply Classical.byContradiction
                  intro c4
                  split at hc
                  · cases hc
                  · split at hc
                    · cases hc
                    · first | cases hc | (rw [if_neg c4] at hc; cases hc)
            have hx4 := hli hsc3
            have hlib : (lwR K V a x).li < (lwR K V a x).sn := by
              obtain ⟨-, ⟨ps, i2, i3⟩, -⟩ := hl
              rw [hsc3] at i2
              rcases i2 with ⟨q, -⟩ | ⟨q, -⟩ | ⟨q, -⟩ | ⟨-, -, -, -, -, -, q0, q1, q2, -, -, q3, -⟩
              · omega
              · omega
              · omega
              · omega
            obtain ⟨J, h1, h2, h3⟩ := C_release (r := 1) (by decide) (by decide) (st := st) lm (lwR K V a x).wn (lwR K V a x) im (Nat.le_refl _) (by omega) hL i41 (by omega)
            change cLR J st (rel 1 (lwR K V a x)) at h2
            have hsn : (lwR K V a x).sn ≤ (rel 1 (lwR K V a x)).sn := by
              have : ∀ (f : Nat) (z : LW), z.sn ≤ (relF 1 f z).sn := by
                intro f
                induction f with
                | zero => intro z; exact Nat.le_refl _
                | succ f ihf => intro z; simp only [relF]; split; exact Nat.le_trans (Nat.le_succ _) (ihf (popW z)); exact Nat.le_refl _
              exact this _ _
            have ha := C_addStep h2.1 (by omega) 2 0 lm
            obtain ⟨q1, q2⟩ := cLR_add h2 (c := (2, 0)) (b := 0) (Or.inr ⟨by decide, rfl⟩)
            change cLR (adM J (st + (rel 1 (lwR K V a x)).sn) 2 0) st (apS (rel 1 (lwR K V a x)) (2, 0)) at q1
            change Lk st J (adM J (st + (rel 1 (lwR K V a x)).sn) 2 0) at q2
            generalize hM : adM J (st + (rel 1 (lwR K V a x)).sn) 2 0 = M at *
            have hT' : lwT (lwR K V a x) (K (a + x)) (V (a + x)) = (LW.mk (rel 1 (lwR K V a x)).W (rel 1 (lwR K V a x)).wn (rel 1 (lwR K V a x)).C (rel 1 (lwR K V a x)).cn (udN (udN (rel 1 (lwR K V a x)).S (rel 1 (lwR K V a x)).sn (2, 0)) (lwR K V a x).li (60, (rel 1 (lwR K V a x)).sn + 1)) ((rel 1 (lwR K V a x)).sn + 1) (rel 1 (lwR K V a x)).li ((lwR K V a x).nb + 1) (udN (lwR K V a x).hs ((lwR K V a x).nb + 1) 0) (rel 1 (lwR K V a x)).t0 (rel 1 (lwR K V a x)).t1 (udN (lwR K V a x).t2 ((lwR K V a x).nb + 1) (rel 1 (lwR K V a x)).cn) (udN (lwR K V a x).t3 (lwR K V a x).nb (rel 1 (lwR K V a x)).cn) (udN (lwR K V a x).u ((lwR K V a x).nb + 1) ((rel 1 (lwR K V a x)).sn + 1)) (udN (lwR K V a x).v ((lwR K V a x).nb + 1) (rel 1 (lwR K V a x)).cn)) := by unfold lwT; rw [if_neg k2, if_neg k139, if_neg k137, if_pos k138]; rfl
            have hM5 : M 15 5 = nI (st + ((rel 1 (lwR K V a x)).sn + 1)) := q1.1
            have hin : gm_in (nI (st + (lwR K V a x).li)) 406 = true := gm_in_nI (by omega) (by decide)
            have hcl : (nI (st + (lwR K V a x).li)).toNatClampNeg = st + (lwR K V a x).li := nI_clamp (by omega)
            have hcL : cLR (gm_up M 17 (st + (lwR K V a x).li) (nI (st + ((rel 1 (lwR K V a x)).sn + 1)))) st (lwR K V a (x + 1)) := by
              rw [eR, hT']
              obtain ⟨l1, l2, l3, l4⟩ := q1
              refine ⟨?_, ?_, fun i hi => ?_, fun y hy => ?_⟩
              · rw [gu_ne (by decide)]; exact l1
              · rw [gu_ne (by decide)]; exact l2
              · rw [gu_ne (by decide)]; exact l3 i hi
              · have hy' : y < (rel 1 (lwR K V a x)).sn + 1 := hy
                have hl16 : M 16 (st + (lwR K V a x).li) = nI 60 := by
                  have := (l4 (lwR K V a x).li (by show _ < (rel 1 (lwR K V a x)).sn + 1; omega)).1
                  have hS60 : ((apS (rel 1 (lwR K V a x)) (2, 0)).S (lwR K V a x).li).1 = 60 := by
                    show (udN (rel 1 (lwR K V a x)).S (rel 1 (lwR K V a x)).sn (2, 0) (lwR K V a x).li).1 = 60
                    unfold udN
                    rw [if_neg (by omega)]
                    have hSk : ∀ (f : Nat) (z : LW) (y : Nat), y < z.sn → (relF 1 f z).S y = z.S y := by
                      intro f
                      induction f with
                      | zero => intro z y _; rfl
                      | succ f ihf =>
                        intro z y hy
                        simp only [relF]
                        split
                        · rw [ihf (popW z) y (by show y < z.sn + 1; omega)]
                          show udN z.S z.sn _ y = z.S y
                          unfold udN
                          rw [if_neg (by omega)]
                        · rfl
                    have := hSk (lwR K V a x).wn (lwR K V a x) (lwR K V a x).li hlib
                    change (rel 1 (lwR K V a x)).S (lwR K V a x).li = _ at this
                    rw [this]
                    obtain ⟨-, ⟨ps, i2, i3⟩, -⟩ := hl
                    rw [hsc3] at i2
                    rcases i2 with ⟨q, -⟩ | ⟨q, -⟩ | ⟨q, -⟩ | ⟨-, -, -, -, -, -, q0, q1, q2, -, q5, q3, -⟩
                    · omega
                    · omega
                    · omega
                    · rw [q3]; exact q5
                  rw [hS60] at this
                  exact this
                show gm_up M 17 _ _ 16 (st + y) = nI (udN (udN (rel 1 (lwR K V a x)).S (rel 1 (lwR K V a x)).sn (2, 0)) (lwR K V a x).li (60, (rel 1 (lwR K V a x)).sn + 1) y).1 ∧ (((udN (udN (rel 1 (lwR K V a x)).S (rel 1 (lwR K V a x)).sn (2, 0)) (lwR K V a x).li (60, (rel 1 (lwR K V a x)).sn + 1) y).1 = 60 ∧ (udN (udN (rel 1 (lwR K V a x)).S (rel 1 (lwR K V a x)).sn (2, 0)) (lwR K V a x).li (60, (rel 1 (lwR K V a x)).sn + 1) y).2 = 0) ∨ gm_up M 17 _ _ 17 (st + y) = nI (if (udN (udN (rel 1 (lwR K V a x)).S (rel 1 (lwR K V a x)).sn (2, 0)) (lwR K V a x).li (60, (rel 1 (lwR K V a x)).sn + 1) y).1 = 60 then st + (udN (udN (rel 1 (lwR K V a x)).S (rel 1 (lwR K V a x)).sn (2, 0)) (lwR K V a x).li (60, (rel 1 (lwR K V a x)).sn + 1) y).2 else (udN (udN (rel 1 (lwR K V a x)).S (rel 1 (lwR K V a x)).sn (2, 0)) (lwR K V a x).li (60, (rel 1 (lwR K V a x)).sn + 1) y).2))
                by_cases ey : y = (lwR K V a x).li
                · have eU : udN (udN (rel 1 (lwR K V a x)).S (rel 1 (lwR K V a x)).sn (2, 0)) (lwR K V a x).li (60, (rel 1 (lwR K V a x)).sn + 1) y = (60, (rel 1 (lwR K V a x)).sn + 1) := by unfold udN; rw [if_pos ey]
                  rw [eU, ey]
                  refine ⟨by rw [gu_ne (by decide)]; exact hl16, Or.inr ?_⟩
                  rw [gu_eq, if_pos rfl]
                · have eU : udN (udN (rel 1 (lwR K V a x)).S (rel 1 (lwR K V a x)).sn (2, 0)) (lwR K V a x).li (60, (rel 1 (lwR K V a x)).sn + 1) y = (apS (rel 1 (lwR K V a x)) (2, 0)).S y := by
                    show _ = udN (rel 1 (lwR K V a x)).S (rel 1 (lwR K V a x)).sn (2, 0) y
                    unfold udN
                    rw [if_neg ey]
                  rw [eU, gu_ne (by decide), gu_nk (by omega)]
                  exact l4 y hy
            have lk4 : Lk st M (gm_up M 17 (st + (lwR K V a x).li) (nI (st + ((rel 1 (lwR K V a x)).sn + 1)))) := ⟨Fr.up1 (by decide), fun y hy => ⟨by rw [gu_ne (by decide)], by rw [gu_nk (by omega)]⟩⟩
            obtain ⟨im', j1, j2⟩ := ih (x + 1) _ x4 (.int (nI (K (a + x)))) (by omega) (tk ((h3.tr q2).tr lk4)) hcL hpd (fun h => by
              exfalso
              rw [eG] at h
              unfold gn at h
              rw [if_neg (by omega), if_neg (by omega), if_neg (by omega)] at h
              rcases i1 with w3 | w4
              · unfold gf at hf
                rw [if_neg (by omega), if_neg (by omega), if_neg (by omega), if_pos w3, if_neg (by omega), if_neg (by omega), if_neg (by omega)] at hf
                cases hf
              · unfold gf at hf
                rw [if_neg (by omega), if_neg (by omega), if_neg (by omega), if_neg (by omega)] at hf
                have ho : gOpr (K (a + x)) = false := by rw [k138]; rfl
                rw [if_neg (by omega), ho, cond_false] at h
                rw [ho, cond_false] at hf
                by_cases c1 : 0 < (gst K g0 (a + x)).op
                · rw [if_pos c1, if_neg (by omega)] at hf; cases hf
                · rw [if_neg c1, if_neg (by omega), if_neg (by omega), if_pos hsc3, GS_sc] at h
                  cases h) rfl
            refine ⟨im', ?_, j2.1, j2.2.1, ((h3.tr q2).tr lk4).tr j2.2.2⟩
            rw [z1] at h1
            have hld : gm_den 305 0 [.ref 15, .int (nI (st + (lwR K V a x).li))] [] 128 gm_RF M lm = some (none, 128, gm_RF, gm_up M 17 (st + (lwR K V a x).li) (nI (st + ((rel 1 (lwR K V a x)).sn + 1))), lm) := by
              have hnle : ¬ nI (st + ((rel 1 (lwR K V a x)).sn + 1)) ≤ nI (st + (lwR K V a x).li) := nI_ge (by omega) (by omega)
              simp (decide := true) only [QX2_leadOn, hM5, hnle, hin, hcl, if_true, if_false]
            rw [← j1, LX2_take_21]
            simp (decide := true) only [QX2_take, hT.1, hlt, hkd, gm_cont_i, e2, c6, if_true, if_false, not_false_eq_true, not_true_eq_false, h1, ha, gm_cont_v, hx4, hld, ea]
          · have n138 : ¬ nI (K (a + x)) = 138 := nk 138 (by decide) k138
            have n59 : ¬ nI (K (a + x)) = 59 := nk 59 (by decide) hn59
            obtain ⟨J, h1, h2, h3⟩ := C_sign (v := V (a + x)) hL hl hf hkx (by omega) (by omega) (by omega) lm
            obtain ⟨im', j1, j2⟩ := ih (x + 1) J x4 (.int (nI (K (a + x)))) (by omega) (tk h3) (by rw [eR]; exact h2) hpd (fun h => by rw [hli2 k137 k138]; exact hli (hsc k137 k138 h)) rfl
            refine ⟨im', ?_, j2.1, j2.2.1, h3.tr j2.2.2⟩
            rw [← j1, LX2_take_21]
            simp (decide := true) only [QX2_take, hT.1, hlt, hkd, gm_cont_i, n2, e139, n137, n138, n59, c6, if_true, if_false, not_false_eq_true, h1, gm_cont_v, ea]
