/-! a run of the pure machine is a run of the true one: calls, and all together -/
theorem gm_c0 {o i k' : Nat} {t : Nat × Nat × Nat} {N : gm_M} (hN : gm_MT[k']? = some N) (h : gm_c o i = some (0, k', t)) : ∃ on, gm_On[o]? = some on ∧ (gm_y N).cls ≠ "java/lang/Math" ∧ k' ≠ gm_LK ∧ Jvm.Cond.methodLink on i (gm_y N) ∈ lw_tbl ∧ Jvm.Cond.static (gm_y N) ∈ lw_tbl := by
  have h1 := gm_c_spec h
  simp only [gm_CTb, hN] at h1
  split at h1
  · rename_i N9 on hN9 ho
    cases hN9
    simp only [Bool.and_eq_true, decide_eq_true_eq] at h1
    exact ⟨on, ho, h1.1.1.1, h1.1.1.2, gm_wd_in h1.1.2, gm_wd_in h1.2⟩
  · cases h1
theorem gm_c4 {o i k' : Nat} {t : Nat × Nat × Nat} {N : gm_M} (hN : gm_MT[k']? = some N) (h : gm_c o i = some (4, k', t)) : ∃ on, gm_On[o]? = some on ∧ (gm_y N).cls ≠ "java/lang/Math" ∧ k' ≠ gm_LK ∧ Jvm.Cond.methodLinkNest on i (gm_y N) "WorseSenate" ∈ lw_tbl ∧ Jvm.Cond.static (gm_y N) ∈ lw_tbl := by
  have h1 := gm_c_spec h
  simp only [gm_CTb, hN] at h1
  split at h1
  · rename_i N9 on hN9 ho
    cases hN9
    simp only [Bool.and_eq_true, decide_eq_true_eq] at h1
    exact ⟨on, ho, h1.1.1.1, h1.1.1.2, gm_wd_in h1.1.2, gm_wd_in h1.2⟩
  · cases h1
theorem gm_c1 {o i k' : Nat} {t : Nat × Nat × Nat} {N : gm_M} (hN : gm_MT[k']? = some N) (h : gm_c o i = some (1, k', t)) : ∃ on, gm_On[o]? = some on ∧ (gm_y N).cls ≠ "java/lang/Math" ∧ k' ≠ gm_LK ∧ Jvm.Cond.methodLink on i (gm_y N) ∈ lw_tbl ∧ Jvm.Cond.instanceMethod (gm_y N) ∈ lw_tbl ∧ Jvm.Cond.selects (gm_y N).cls (gm_y N) (gm_y N) ∈ lw_tbl := by
  have h1 := gm_c_spec h
  simp only [gm_CTb, hN] at h1
  split at h1
  · rename_i N9 on hN9 ho
    cases hN9
    simp only [Bool.and_eq_true, decide_eq_true_eq] at h1
    exact ⟨on, ho, h1.1.1.1.1, h1.1.1.1.2, gm_wd_in h1.1.1.2, gm_wd_in h1.1.2, gm_wd_in h1.2⟩
  · cases h1
theorem gm_c2 {o i k' : Nat} {t : Nat × Nat × Nat} {N : gm_M} (hN : gm_MT[k']? = some N) (h : gm_c o i = some (2, k', t)) : ∃ on, gm_On[o]? = some on ∧ (gm_y N).cls ≠ "java/lang/Math" ∧ k' ≠ gm_LK ∧ Jvm.Cond.methodLink on i (gm_y N) ∈ lw_tbl ∧ Jvm.Cond.instanceMethod (gm_y N) ∈ lw_tbl ∧ (gm_y N).name = "<init>" ∧ gm_ret N = none := by
  have h1 := gm_c_spec h
  simp only [gm_CTb, hN] at h1
  split at h1
  · rename_i N9 on hN9 ho
    cases hN9
    simp only [Bool.and_eq_true, decide_eq_true_eq] at h1
    exact ⟨on, ho, h1.1.1.1.1.1, h1.1.1.1.1.2, gm_wd_in h1.1.1.1.2, gm_wd_in h1.1.1.2, h1.1.2, h1.2⟩
  · cases h1
theorem gm_c3 {o i k' : Nat} {t : Nat × Nat × Nat} {N : gm_M} (hN : gm_MT[k']? = some N) (h : gm_c o i = some (3, k', t)) : ∃ on, gm_On[o]? = some on ∧ (gm_y N).cls ≠ "java/lang/Math" ∧ k' ≠ gm_LK ∧ Jvm.Cond.methodLinkNest on i (gm_y N) "WorseSenate" ∈ lw_tbl ∧ Jvm.Cond.instanceMethod (gm_y N) ∈ lw_tbl ∧ (gm_y N).name = "<init>" ∧ gm_ret N = none := by
  have h1 := gm_c_spec h
  simp only [gm_CTb, hN] at h1
  split at h1
  · rename_i N9 on hN9 ho
    cases hN9
    simp only [Bool.and_eq_true, decide_eq_true_eq] at h1
    exact ⟨on, ho, h1.1.1.1.1.1, h1.1.1.1.1.2, gm_wd_in h1.1.1.1.2, gm_wd_in h1.1.1.2, h1.1.2, h1.2⟩
  · cases h1
theorem gm_rm_spec {M N : gm_M} {n : Nat} {rest : List Value} (h : gm_rm M N n rest = true) : gm_fr N + 1 ≤ gm_fr M ∧ 8 + (gm_ml N + 11) + gm_lo N ≤ gm_lo M ∧ (rest.map fun v => v.category).sum ≤ 8 ∧ ((gm_nc M = 0 ∧ gm_nc N = 0) ∨ (gm_s0 M ≤ n ∧ n + gm_nc N ≤ gm_s0 M + gm_nc M)) ∧ (gm_nc N = 0 ∨ n = gm_s0 N) := by
  unfold gm_rm at h
  simp only [Bool.and_eq_true, Bool.or_eq_true, decide_eq_true_eq] at h
  exact ⟨h.1.1.1.1, h.1.1.1.2, h.1.1.2, h.1.2, h.2⟩
theorem gm_call_room {M N : gm_M} {R : Room} {n n0 : Nat} (hM : M ∈ gm_MT) (hN : N ∈ gm_MT) (hi0 : gm_nc M ≠ 0 → n0 = gm_s0 M) (hR : gm_fr M ≤ R.frames ∧ gm_lo M ≤ R.locals ∧ gm_nc M ≤ R.cells ∧ gm_ns M ≤ R.slots) (hn : n0 ≤ n) (hnc : gm_nc M = 0 → n = n0) (h4 : (gm_nc M = 0 ∧ gm_nc N = 0) ∨ (gm_s0 M ≤ n ∧ n + gm_nc N ≤ gm_s0 M + gm_nc M)) (h5 : gm_nc N = 0 ∨ n = gm_s0 N) :
    (n - n0) + gm_nc N ≤ R.cells ∧ (gm_SL n - gm_SL n0) + gm_ns N ≤ R.slots ∧ (gm_SL n - gm_SL n0) + gm_ns N = gm_SL (n + gm_nc N) - gm_SL n0 ∧ (gm_nc M = 0 → gm_nc N = 0) := by
  have hms := List.all_eq_true.mp gm_MS2_ok M hM
  have hns := List.all_eq_true.mp gm_MS2_ok N hN
  simp only [decide_eq_true_eq] at hms hns
  have hns2 : gm_ns N = gm_SL (n + gm_nc N) - gm_SL n := by
    rcases h5 with h | h
    · rw [hns, h]; simp
    · rw [hns, h]
  have m1 := gm_SL_mono hn
  have m2 := gm_SL_mono (Nat.le_add_right n (gm_nc N))
  by_cases h0 : gm_nc M = 0
  · have hnn := hnc h0
    have hN0 : gm_nc N = 0 := by omega
    subst hnn
    rw [hN0] at hns2 m2 ⊢
    simp only [Nat.add_zero] at hns2 m2 ⊢
    exact ⟨by omega, by omega, by omega, fun _ => trivial⟩
  · have hs := hi0 h0
    have h6 : gm_s0 M ≤ n ∧ n + gm_nc N ≤ gm_s0 M + gm_nc M := h4.resolve_left (fun h => h0 h.1)
    have m3 := gm_SL_mono h6.2
    subst hs
    exact ⟨by omega, by omega, by omega, fun h => absurd h h0⟩
theorem gm_vwIdx {ci : Nat} {C : String} (h : vwCl.findIdx? (fun c => c.1 == C) = some ci) : ∃ T N, vwCl[ci]? = some (C, T, N) := by
  obtain ⟨h1, h2, -⟩ := List.findIdx?_eq_some_iff_getElem.mp h
  have h3 : (vwCl[ci]).1 = C := by simpa using h2
  refine ⟨(vwCl[ci]).2.1, (vwCl[ci]).2.2, ?_⟩
  rw [List.getElem?_eq_getElem h1, ← h3]
theorem gm_go (l : Launch) (g : gm_G) : ∀ f, gm_Go l g f := by
  intro f
  induction f with
  | zero => intro k M pc vs st n rf im lm v n' rf' im' lm' hM hr; cases hr
  | succ f ih =>
    intro k M pc vs st n rf im lm v n' rf' im' lm' hM hr p e R s m args below meth c H locs ls Q n0 hK hP hv hvl hn hnc hlo hret
    rw [gm_run] at hr
    simp only [hM] at hr
    cases hd : decode (gm_b M) pc with
    | error e => simp only [hd] at hr; cases hr
    | ok q =>
      obtain ⟨ins, len⟩ := q
      simp only [hd] at hr
      by_cases hln : gm_lnb ins len = true
      case neg => rw [if_neg hln] at hr; cases hr
      rw [if_pos hln] at hr
      cases hs : gm_stp M ins pc vs st n rf im lm with
      | none => simp only [hs] at hr; cases hr
      | some o =>
        simp only [hs] at hr
        rcases o with ⟨pc1, vs1, st1, n1, rf1, im1, lm1⟩ | r1 | ⟨k1, as, pc1, rest⟩
        · simp only at hr
          exact gs_all hK hd hln hs hP hv hvl hn hnc hlo (fun H1 ls1 locs1 hP1 hv1 hvl1 hn1 hnc1 hlo1 => ih k M pc1 vs1 st1 n1 rf1 im1 lm1 v n' rf' im' lm' hM hr p e R s m args below meth c H1 locs1 ls1 Q n0 hK hP1 hv1 hvl1 hn1 hnc1 hlo1 hret)
        · simp only at hr
          cases hr
          obtain ⟨v1, he, hrt⟩ := gm_stp_ret hd hln hs
          cases he
          rw [(gm_rt_nil (g := g) hrt).1]
          exact hret H ls locs pc st hrt hP hlo hn hnc
        · simp only at hr
          obtain ⟨rfl, N, hN, hrm, hst, i, t, hkind⟩ := gm_stp_call hs
          simp only [hN] at hr
          by_cases hl : (lg_sl as).length ≤ gm_ml N
          case neg => rw [if_neg hl] at hr; cases hr
          rw [if_pos hl] at hr
          cases hc : gm_run f k1 0 (gm_ent N as) [] n rf im lm with
          | none => simp only [hc] at hr; cases hr
          | some q =>
            obtain ⟨v1, n1, rf1, im1, lm1⟩ := q
            simp only [hc] at hr
            by_cases hn1 : n1 = n + gm_nc N
            case neg => rw [if_neg hn1] at hr; cases hr
            rw [if_pos hn1] at hr
            obtain ⟨r1, r2, r3, r4, r5⟩ := gm_rm_spec hrm
            obtain ⟨hx, hb, hml, hown, hon, hts, hC, hs0, hi0, hin, hR, hmt⟩ := id hK
            obtain ⟨q1, q2, q3, q4⟩ := gm_call_room (R := R) hmt (List.mem_of_getElem? hN) hi0 hR hn hnc r4 r5
            have hvs := gm_vS hs0 hP hn hlo
            have hsz : ls.size = gm_ml M := by rw [hv.1, hvl]
            have hstk : st.map (gm_tr g) = (as.map (gm_tr g)).reverse ++ rest.map (gm_tr g) := by rw [hst, List.map_append, List.map_reverse]
            have hW8 : 2 * (F0 m pc ls (st.map (gm_tr g))).monitorRoom + ((rest.map (gm_tr g)).map fun v => v.category).sum ≤ 8 := by
              rw [gm_cat_map]
              show 2 * 0 + _ ≤ 8
              omega
            have fin : ∀ Qa : State → Outcome → State → Prop, (∀ st o t, Qa st o t → gm_Qc g v1 n1 rf1 im1 lm1 #[] st o t) → va_Run p l e R s m args below meth c H locs (n - n0) (gm_SL n - gm_SL n0) (gm_nc N) (gm_ns N) (F0 m pc ls (st.map (gm_tr g))) (rest.map (gm_tr g)) Qa (gm_A g) → W p l e R s m args below meth c H locs (n - n0) (gm_SL n - gm_SL n0) Q (F0 m pc ls (st.map (gm_tr g))) := by
              intro Qa hQa hrun
              refine gm_callW (v := v1.map (gm_tr g)) (B := fun t => gm_P g n1 rf1 im1 lm1 t.heap) hrun (fun st o t h => hQa st o t h) (fun t L hB hL => ?_)
              have e1 : n - n0 + gm_nc N = n1 - n0 := by omega
              rw [e1, q3, ← hn1]
              have e2 : (v1.map (gm_tr g)).toList ++ rest.map (gm_tr g) = (v1.toList ++ rest).map (gm_tr g) := by
                rw [List.map_append]
                cases v1 <;> rfl
              rw [e2]
              exact ih k M (pc + 3) vs (v1.toList ++ rest) n1 rf1 im1 lm1 v n' rf' im' lm' hM hr p e R s m args below meth c t.heap (locs ++ L) ls Q n0 hK hB hv hvl (by omega) (fun h => by have := q4 h; have := hnc h; omega) (fun q hq => by
                rcases List.mem_append.mp hq with h | h
                · exact hlo q h
                · exact hL q h) hret
            have hpre : ∀ U : State, U.heap = H → s.WarmedH U.vm → gm_Pc g as n rf im lm (as.map (gm_tr g)).toArray U := fun U hU hW => ⟨rfl, by rw [hU]; exact hP, hC.warm hW⟩
            have hfix : CallFix p m c (gm_b M) (gm_ml M) s args gm_T (gm_y M).cls := ⟨hx, hb, hml, hown, hts⟩
            have hroom : (gm_room N).frames + 1 ≤ R.frames ∧ 8 + (gm_ml N + 11) + (gm_room N).locals ≤ R.locals := ⟨Nat.le_trans r1 hR.1, Nat.le_trans r2 hR.2.1⟩
            rcases hkind with ⟨rfl, hk, hal⟩ | ⟨rfl, hk, hal⟩ | ⟨rfl, hk, o, as', rfl, hal, hrec⟩ | ⟨rfl, hk, o, as', rfl, hal, ho⟩ | ⟨rfl, hk, o, as', rfl, hal, ho⟩
            · obtain ⟨on, g1, g2, g3, g4, g5⟩ := gm_c0 hN hk
              have eon : on = (gm_y M).cls := Option.some.inj (g1.symm.trans hon)
              subst eon
              obtain ⟨m1, m2, m3, m4, m5, m6⟩ := gm_meth hN g3
              simp only [gm_lnb, decide_eq_true_eq] at hln
              subst hln
              exact fin _ (fun st o t h => h) (va_runS (As := as.map (gm_tr g)) hfix (gm_met ih hN g3 g2 hl hc hn1 (fun h => r5.resolve_left h)) ⟨callB_of (gm_np N) hts (gm_goodIn hN g3) rfl rfl rfl (hts _ (gm_T_in m1 rfl)) (hts _ (gm_T_in g4 rfl)) ⟨m3, m4, m5⟩ hroom, hts _ (gm_T_in g5 rfl)⟩ ⟨gm_blind _ _ _ _ _ _, hpre⟩ rfl (by rw [List.length_map]; exact hal) hsz hstk hW8 hd ⟨q1, q2⟩)
            · obtain ⟨on, g1, g2, g3, g4, g5⟩ := gm_c4 hN hk
              have eon : on = (gm_y M).cls := Option.some.inj (g1.symm.trans hon)
              subst eon
              obtain ⟨m1, m2, m3, m4, m5, m6⟩ := gm_meth hN g3
              simp only [gm_lnb, decide_eq_true_eq] at hln
              subst hln
              exact fin _ (fun st o t h => h) (va_runSN (As := as.map (gm_tr g)) hfix (gm_met ih hN g3 g2 hl hc hn1 (fun h => r5.resolve_left h)) ⟨va_cnB (gm_np N) hts (gm_goodIn hN g3) rfl rfl rfl (hC.2.2.2.2.2.2.1 _ g4 rfl) (hts _ (gm_T_in m1 rfl)) ⟨m3, m4, m5⟩ hroom, hts _ (gm_T_in g5 rfl), trivial⟩ ⟨gm_blind _ _ _ _ _ _, hpre⟩ rfl (by rw [List.length_map]; exact hal) hsz hstk hW8 hd ⟨q1, q2⟩)
            · obtain ⟨on, g1, g2, g3, g4, g5, g6⟩ := gm_c1 hN hk
              have eon : on = (gm_y M).cls := Option.some.inj (g1.symm.trans hon)
              subst eon
              obtain ⟨m1, m2, m3, m4, m5, m6⟩ := gm_meth hN g3
              simp only [gm_lnb, decide_eq_true_eq] at hln
              subst hln
              have hone : o ≠ 1030 ∧ ∃ cellB : Cell, H[gm_ad g o]? = some cellB ∧ cellB.vm.isStatics = false ∧ s.vm.findClass (gm_y N).cls = some cellB.cls := by
                rcases hrec with ⟨ho, hcl⟩ | ⟨ho, ci, hlay, hidx⟩
                · have hvk := hC.2.2.2.2.2.2.2.2.2.1.kept (gm_old hs0 hC.2.2.2.2.1)
                  rcases ho with rfl | rfl
                  · refine ⟨by decide, ?_⟩
                    rw [hcl, gm_ad_old (by decide)]
                    exact vk_recv hvk (i := 0) (by decide) hvs
                  · refine ⟨by decide, ?_⟩
                    rw [hcl, gm_ad_old (by decide)]
                    exact vk_recv hvk (i := 1) (by decide) hvs
                · refine ⟨hP.lt ho, ?_⟩
                  obtain ⟨T, Nf, hcl⟩ := gm_vwIdx hidx
                  have hat := hP.at ho
                  rw [gm_ce_0 hlay] at hat
                  rw [hP.small ho]
                  exact va_recv hC.1 (gm_one hat) hcl (q0 := 0) rfl
              have hstk2 : st.map (gm_tr g) = (as'.map (gm_tr g)).reverse ++ .ref (gm_ad g o) :: rest.map (gm_tr g) := by
                rw [hstk, List.map_cons, gm_tr_ref hone.1, List.reverse_cons, List.append_assoc]
                rfl
              have hpre2 : ∀ U : State, U.heap = H → s.WarmedH U.vm → gm_Pc g (.ref o :: as') n rf im lm (Value.ref (gm_ad g o) :: as'.map (gm_tr g)).toArray U := fun U hU hW => by
                have h9 := hpre U hU hW
                rw [List.map_cons, gm_tr_ref hone.1] at h9
                exact h9
              exact fin _ (fun st o t h => h) (va_runV (As := as'.map (gm_tr g)) hfix (gm_met ih hN g3 g2 hl hc hn1 (fun h => r5.resolve_left h)) ⟨callB_of (gm_np N) hts (gm_goodIn hN g3) rfl rfl rfl (hts _ (gm_T_in m1 rfl)) (hts _ (gm_T_in g4 rfl)) ⟨m3, m4, m5⟩ hroom, hts _ (gm_T_in g5 rfl), hts _ (gm_T_in g6 rfl)⟩ ⟨gm_blind _ _ _ _ _ _, hone.2, hpre2⟩ rfl (by rw [List.length_map]; exact hal) hsz hstk2 hW8 hd ⟨q1, q2⟩)
            · obtain ⟨on, g1, g2, g3, g4, g5, g6, g7⟩ := gm_c2 hN hk
              have eon : on = (gm_y M).cls := Option.some.inj (g1.symm.trans hon)
              subst eon
              obtain ⟨m1, m2, m3, m4, m5, m6⟩ := gm_meth hN g3
              simp only [gm_lnb, decide_eq_true_eq] at hln
              subst hln
              have hstk2 : st.map (gm_tr g) = (as'.map (gm_tr g)).reverse ++ .ref (gm_ad g o) :: rest.map (gm_tr g) := by
                rw [hstk, List.map_cons, gm_tr_ref (hP.lt ho), List.reverse_cons, List.append_assoc]
                rfl
              have hpre2 : ∀ U : State, U.heap = H → s.WarmedH U.vm → gm_Pc g (.ref o :: as') n rf im lm (Value.ref (gm_ad g o) :: as'.map (gm_tr g)).toArray U := fun U hU hW => by
                have h9 := hpre U hU hW
                rw [List.map_cons, gm_tr_ref (hP.lt ho)] at h9
                exact h9
              have hcb := callB_of (R := R) (own := (gm_y M).cls) (index := i) (gm_np N) hts (gm_goodIn hN g3) rfl rfl rfl (hts _ (gm_T_in m1 rfl)) (hts _ (gm_T_in g4 rfl)) ⟨m3, m4, m5⟩ hroom
              have hmm := gm_met ih hN g3 g2 hl hc hn1 (fun h => r5.resolve_left h)
              rw [g7] at hcb
              exact fin _ (fun st o t h => h) (va_runI (As := as'.map (gm_tr g)) hfix hmm ⟨hcb, g6, hts _ (gm_T_in g5 rfl)⟩ ⟨gm_blind _ _ _ _ _ _, hpre2⟩ rfl (by rw [List.length_map]; exact hal) hsz hstk2 hW8 hd ⟨q1, q2⟩)
            · obtain ⟨on, g1, g2, g3, g4, g5, g6, g7⟩ := gm_c3 hN hk
              have eon : on = (gm_y M).cls := Option.some.inj (g1.symm.trans hon)
              subst eon
              obtain ⟨m1, m2, m3, m4, m5, m6⟩ := gm_meth hN g3
              simp only [gm_lnb, decide_eq_true_eq] at hln
              subst hln
              have hstk2 : st.map (gm_tr g) = (as'.map (gm_tr g)).reverse ++ .ref (gm_ad g o) :: rest.map (gm_tr g) := by
                rw [hstk, List.map_cons, gm_tr_ref (hP.lt ho), List.reverse_cons, List.append_assoc]
                rfl
              have hpre2 : ∀ U : State, U.heap = H → s.WarmedH U.vm → gm_Pc g (.ref o :: as') n rf im lm (Value.ref (gm_ad g o) :: as'.map (gm_tr g)).toArray U := fun U hU hW => by
                have h9 := hpre U hU hW
                rw [List.map_cons, gm_tr_ref (hP.lt ho)] at h9
                exact h9
              have hcb := va_cnB (R := R) (own := (gm_y M).cls) (host := "WorseSenate") (index := i) (gm_np N) hts (gm_goodIn hN g3) rfl rfl rfl (hC.2.2.2.2.2.2.1 _ g4 rfl) (hts _ (gm_T_in m1 rfl)) ⟨m3, m4, m5⟩ hroom
              have hmm := gm_met ih hN g3 g2 hl hc hn1 (fun h => r5.resolve_left h)
              rw [g7] at hcb
              exact fin _ (fun st o t h => h) (va_runIN (As := as'.map (gm_tr g)) hfix hmm ⟨hcb, g6, hts _ (gm_T_in g5 rfl)⟩ ⟨gm_blind _ _ _ _ _ _, hpre2⟩ rfl (by rw [List.length_map]; exact hal) hsz hstk2 hW8 hd ⟨q1, q2⟩)
