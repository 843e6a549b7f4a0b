/-! one instruction of the pure machine: constants, new cells, Math, arraycopy, Object(); all together: written by wip/whole/gen_step.py -/
theorem gm_k_spec {o i : Nat} {q : Int32 × Nat} (h : gm_k o i = some q) : ∃ on, gm_On[o]? = some on ∧ Jvm.Cond.constant on i q.1 ∈ lw_tbl := by
  unfold gm_k at h
  cases hf : gm_KT.find? (fun e => e.1 == o && e.2.1 == i) with
  | none => rw [hf] at h; cases h
  | some x =>
    rw [hf] at h
    cases h
    obtain ⟨h1, h2⟩ := gm_find gm_KT_ok hf
    simp only [Bool.and_eq_true, beq_iff_eq] at h2
    obtain ⟨rfl, rfl⟩ := h2
    cases ho : gm_On[x.1]? with
    | none => simp [ho] at h1
    | some on =>
      simp only [ho, decide_eq_true_eq] at h1
      exact ⟨on, rfl, gm_wd_in h1⟩
theorem gm_kl_spec {o i : Nat} {q : Int64 × Nat} (h : gm_kl o i = some q) : ∃ on, gm_On[o]? = some on ∧ Jvm.Cond.constantLong on i q.1 ∈ lw_tbl := by
  unfold gm_kl at h
  cases hf : gm_LT.find? (fun e => e.1 == o && e.2.1 == i) with
  | none => rw [hf] at h; cases h
  | some x =>
    rw [hf] at h
    cases h
    obtain ⟨h1, h2⟩ := gm_find gm_LT_ok hf
    simp only [Bool.and_eq_true, beq_iff_eq] at h2
    obtain ⟨rfl, rfl⟩ := h2
    cases ho : gm_On[x.1]? with
    | none => simp [ho] at h1
    | some on =>
      simp only [ho, decide_eq_true_eq] at h1
      exact ⟨on, rfl, gm_wd_in h1⟩
theorem gm_n_spec {o i : Nat} {q : Nat × Nat × Nat × Nat} (h : gm_n o i = some q) : ∃ (C : String) (T : u_T) (N : Nat) (on : String), vwCl[q.1]? = some (C, T, N) ∧ gm_On[o]? = some on ∧ Jvm.Cond.classLink on i C ∈ lw_tbl ∧ Jvm.Cond.instantiable C N ∈ lw_tbl ∧ Jvm.Cond.initialized C ∈ lw_tbl := by
  unfold gm_n at h
  cases hf : gm_NT.find? (fun e => e.1 == o && e.2.1 == i) with
  | none => rw [hf] at h; cases h
  | some x =>
    rw [hf] at h
    cases h
    obtain ⟨h1, h2⟩ := gm_find gm_NT_ok hf
    simp only [Bool.and_eq_true, beq_iff_eq] at h2
    obtain ⟨rfl, rfl⟩ := h2
    unfold gm_NTb at h1
    cases hv : vwCl[x.2.2.1]? with
    | none => simp [hv] at h1
    | some q =>
      cases ho : gm_On[x.1]? with
      | none => simp [hv, ho] at h1
      | some on =>
        obtain ⟨C, T, N⟩ := q
        simp only [hv, ho, Bool.and_eq_true, decide_eq_true_eq] at h1
        exact ⟨C, T, N, on, rfl, rfl, gm_wd_in h1.1.1, gm_wd_in h1.1.2, gm_wd_in h1.2⟩
theorem gm_c_spec {o i : Nat} {q : Nat × Nat × Nat × Nat × Nat} (h : gm_c o i = some q) : gm_CTb (o, i, q) = true := by
  unfold gm_c at h
  cases hf : gm_CT.find? (fun e => e.1 == o && e.2.1 == i) with
  | none => rw [hf] at h; cases h
  | some x =>
    rw [hf] at h
    cases h
    obtain ⟨h1, h2⟩ := gm_find gm_CT_ok hf
    simp only [Bool.and_eq_true, beq_iff_eq] at h2
    obtain ⟨rfl, rfl⟩ := h2
    exact h1
section GMX
variable {p : Program} {l : Launch} {e : Env} {R : Room} {s : State} {m : MethodId} {args : Array Value} {below : List Frame} {meth : Method} {c : Code} {H : Heap} {locs : List Loc} {cells slots : Nat} {Q : State → Prop}
variable {pc : Nat} {ls : Array Slot} {g : gm_G} {n n0 : Nat} {rf : gm_R} {im : gm_I} {lm : gm_L} {M : gm_M} {vs st : List Value} {cc : ByteArray} {rest : List Value}
variable {len pc' n' : Nat} {vs' st' : List Value} {rf' : gm_R} {im' : gm_I} {lm' : gm_L}

theorem gs_ldc {k0 : Nat} (hK : gm_Ks g M n0 p R s m args meth c) (hd : decode (gm_b M) pc = .ok (.ldc k0, len)) (hln : gm_lnb (.ldc k0) len = true) (hs : gm_stp M (.ldc k0) pc vs st n rf im lm = some (.inl (pc', vs', st', n', rf', im', lm'))) (hP : gm_P g n rf im lm H) (hv : gm_lv g ls vs) (hvl : vs.length = gm_ml M) (hn : n0 ≤ n) (hnc : gm_nc M = 0 → n = n0) (hlo : ∀ q ∈ locs, gm_A g q.base)
    (kk : ∀ (H1 : Heap) (ls1 : Array Slot) (locs1 : List Loc), gm_P g n' rf' im' lm' H1 → gm_lv g ls1 vs' → vs'.length = gm_ml M → n0 ≤ n' → (gm_nc M = 0 → n' = n0) → (∀ q ∈ locs1, gm_A g q.base) → W p l e R s m args below meth c H1 locs1 (n' - n0) (gm_SL n' - gm_SL n0) Q (F0 m pc' ls1 (st'.map (gm_tr g)))) : W p l e R s m args below meth c H locs (n - n0) (gm_SL n - gm_SL n0) Q (F0 m pc ls (st.map (gm_tr g))) := by
  obtain ⟨hx, hb, hml, hown, hon, hts, hC, hs0, hi0, hin, hR, hmt⟩ := hK
  simp only [gm_lnb, decide_eq_true_eq] at hln
  subst hln
  simp only [gm_stp] at hs
  split at hs
  · rename_i q hq
    obtain ⟨on, h1, h2⟩ := gm_k_spec hq
    have eon : on = (gm_y M).cls := Option.some.inj (h1.symm.trans hon)
    subst eon
    unfold gm_nx at hs
    cases hs
    exact lv_ldc hx hb hown (hts _ (gm_T_in h2 rfl)) hd (kk H ls locs hP hv hvl hn hnc hlo)
  · split at hs
    · rename_i h0
      obtain ⟨h1, rfl⟩ := h0
      have e6 : (gm_y M).cls = "WorseSenate$Scanner" := by rw [h1] at hon; exact (Option.some.inj hon).symm
      rw [e6] at hown
      unfold gm_nx at hs
      cases hs
      exact va_ldcS hx hb hown hC.2.2.2.2.2.2.2.1 hd (kk H ls locs hP hv hvl hn hnc hlo)
    · split at hs
      · rename_i h0
        obtain ⟨h1, rfl⟩ := h0
        have e6 : (gm_y M).cls = "WorseSenate$Scanner" := by rw [h1] at hon; exact (Option.some.inj hon).symm
        rw [e6] at hown
        unfold gm_nx at hs
        cases hs
        exact va_ldcS hx hb hown hC.2.2.2.2.2.2.2.2.1 hd (kk H ls locs hP hv hvl hn hnc hlo)
      · cases hs

theorem gs_ldc_w {k0 : Nat} (hK : gm_Ks g M n0 p R s m args meth c) (hd : decode (gm_b M) pc = .ok (.ldc_w k0, len)) (hln : gm_lnb (.ldc_w k0) len = true) (hs : gm_stp M (.ldc_w k0) pc vs st n rf im lm = some (.inl (pc', vs', st', n', rf', im', lm'))) (hP : gm_P g n rf im lm H) (hv : gm_lv g ls vs) (hvl : vs.length = gm_ml M) (hn : n0 ≤ n) (hnc : gm_nc M = 0 → n = n0) (hlo : ∀ q ∈ locs, gm_A g q.base)
    (kk : ∀ (H1 : Heap) (ls1 : Array Slot) (locs1 : List Loc), gm_P g n' rf' im' lm' H1 → gm_lv g ls1 vs' → vs'.length = gm_ml M → n0 ≤ n' → (gm_nc M = 0 → n' = n0) → (∀ q ∈ locs1, gm_A g q.base) → W p l e R s m args below meth c H1 locs1 (n' - n0) (gm_SL n' - gm_SL n0) Q (F0 m pc' ls1 (st'.map (gm_tr g)))) : W p l e R s m args below meth c H locs (n - n0) (gm_SL n - gm_SL n0) Q (F0 m pc ls (st.map (gm_tr g))) := by
  obtain ⟨hx, hb, hml, hown, hon, hts, hC, hs0, hi0, hin, hR, hmt⟩ := hK
  simp only [gm_lnb, decide_eq_true_eq] at hln
  subst hln
  simp only [gm_stp] at hs
  split at hs
  · rename_i q hq
    obtain ⟨on, h1, h2⟩ := gm_k_spec hq
    have eon : on = (gm_y M).cls := Option.some.inj (h1.symm.trans hon)
    subst eon
    unfold gm_nx at hs
    cases hs
    exact lv_ldcw hx hb hown (hts _ (gm_T_in h2 rfl)) hd (kk H ls locs hP hv hvl hn hnc hlo)
  · cases hs

theorem gs_ldc2_w {k0 : Nat} (hK : gm_Ks g M n0 p R s m args meth c) (hd : decode (gm_b M) pc = .ok (.ldc2_w k0, len)) (hln : gm_lnb (.ldc2_w k0) len = true) (hs : gm_stp M (.ldc2_w k0) pc vs st n rf im lm = some (.inl (pc', vs', st', n', rf', im', lm'))) (hP : gm_P g n rf im lm H) (hv : gm_lv g ls vs) (hvl : vs.length = gm_ml M) (hn : n0 ≤ n) (hnc : gm_nc M = 0 → n = n0) (hlo : ∀ q ∈ locs, gm_A g q.base)
    (kk : ∀ (H1 : Heap) (ls1 : Array Slot) (locs1 : List Loc), gm_P g n' rf' im' lm' H1 → gm_lv g ls1 vs' → vs'.length = gm_ml M → n0 ≤ n' → (gm_nc M = 0 → n' = n0) → (∀ q ∈ locs1, gm_A g q.base) → W p l e R s m args below meth c H1 locs1 (n' - n0) (gm_SL n' - gm_SL n0) Q (F0 m pc' ls1 (st'.map (gm_tr g)))) : W p l e R s m args below meth c H locs (n - n0) (gm_SL n - gm_SL n0) Q (F0 m pc ls (st.map (gm_tr g))) := by
  obtain ⟨hx, hb, hml, hown, hon, hts, hC, hs0, hi0, hin, hR, hmt⟩ := hK
  simp only [gm_lnb, decide_eq_true_eq] at hln
  subst hln
  simp only [gm_stp] at hs
  split at hs
  · rename_i q hq
    obtain ⟨on, h1, h2⟩ := gm_kl_spec hq
    have eon : on = (gm_y M).cls := Option.some.inj (h1.symm.trans hon)
    subst eon
    unfold gm_nx at hs
    cases hs
    exact lv_ldc2 hx hb hown (hts _ (gm_T_in h2 rfl)) hd (kk H ls locs hP hv hvl hn hnc hlo)
  · cases hs

theorem gs_new {k0 : Nat} (hK : gm_Ks g M n0 p R s m args meth c) (hd : decode (gm_b M) pc = .ok (.new k0, len)) (hln : gm_lnb (.new k0) len = true) (hs : gm_stp M (.new k0) pc vs st n rf im lm = some (.inl (pc', vs', st', n', rf', im', lm'))) (hP : gm_P g n rf im lm H) (hv : gm_lv g ls vs) (hvl : vs.length = gm_ml M) (hn : n0 ≤ n) (hnc : gm_nc M = 0 → n = n0) (hlo : ∀ q ∈ locs, gm_A g q.base)
    (kk : ∀ (H1 : Heap) (ls1 : Array Slot) (locs1 : List Loc), gm_P g n' rf' im' lm' H1 → gm_lv g ls1 vs' → vs'.length = gm_ml M → n0 ≤ n' → (gm_nc M = 0 → n' = n0) → (∀ q ∈ locs1, gm_A g q.base) → W p l e R s m args below meth c H1 locs1 (n' - n0) (gm_SL n' - gm_SL n0) Q (F0 m pc' ls1 (st'.map (gm_tr g)))) : W p l e R s m args below meth c H locs (n - n0) (gm_SL n - gm_SL n0) Q (F0 m pc ls (st.map (gm_tr g))) := by
  obtain ⟨hx, hb, hml, hown, hon, hts, hC, hs0, hi0, hin, hR, hmt⟩ := hK
  simp only [gm_lnb, decide_eq_true_eq] at hln
  subst hln
  simp only [gm_stp] at hs
  split at hs
  · rename_i q hq
    obtain ⟨C, T, N, on, hcl, h1, h2, h3, h4⟩ := gm_n_spec hq
    have eon : on = (gm_y M).cls := Option.some.inj (h1.symm.trans hon)
    subst eon
    unfold gm_new at hs
    split at hs
    · rename_i hc
      obtain ⟨hl, hc1, hc2⟩ := hc
      obtain ⟨u1, u2, u3, u4⟩ := gm_nc_up hmt hi0 hR (w := 1) (by decide) hc1 hc2
      have hsl := gm_SL_succ hl
      have hmo := gm_SL_mono u1
      have hN : gm_sz (0, q.1) = N := (gm_FY_at hcl).1
      rw [hN] at hsl
      unfold gm_nx at hs
      cases hs
      refine gw_new hx hb hts hown hC.1 hP hl hcl (hts _ (gm_T_in h2 rfl)) (hts _ (gm_T_in h3 rfl)) (hts _ (gm_T_in h4 rfl)) u3 (by omega) hd (fun H1 hP1 => ?_)
      refine W.cs (cells' := n + 1 - n0) (slots' := gm_SL (n + 1) - gm_SL n0) (by omega) (by omega) ?_
      have h9 := kk H1 ls locs hP1 hv hvl (by omega) (fun h => absurd h u2) hlo
      have hn9 : n < 1000 := by
        have := (List.getElem?_eq_some_iff.mp hl).1
        rw [gm_LAY_len] at this
        omega
      rw [List.map_cons, gm_tr_ref (by omega), show gm_ad g n = gm_bs g + n from if_pos hn9] at h9
      exact h9
    · cases hs
  · cases hs

theorem gs_newarray_int (hK : gm_Ks g M n0 p R s m args meth c) (hd : decode (gm_b M) pc = .ok (.newarray .int, len)) (hln : gm_lnb (.newarray .int) len = true) (hs : gm_stp M (.newarray .int) pc vs st n rf im lm = some (.inl (pc', vs', st', n', rf', im', lm'))) (hP : gm_P g n rf im lm H) (hv : gm_lv g ls vs) (hvl : vs.length = gm_ml M) (hn : n0 ≤ n) (hnc : gm_nc M = 0 → n = n0) (hlo : ∀ q ∈ locs, gm_A g q.base)
    (kk : ∀ (H1 : Heap) (ls1 : Array Slot) (locs1 : List Loc), gm_P g n' rf' im' lm' H1 → gm_lv g ls1 vs' → vs'.length = gm_ml M → n0 ≤ n' → (gm_nc M = 0 → n' = n0) → (∀ q ∈ locs1, gm_A g q.base) → W p l e R s m args below meth c H1 locs1 (n' - n0) (gm_SL n' - gm_SL n0) Q (F0 m pc' ls1 (st'.map (gm_tr g)))) : W p l e R s m args below meth c H locs (n - n0) (gm_SL n - gm_SL n0) Q (F0 m pc ls (st.map (gm_tr g))) := by
  obtain ⟨hx, hb, hml, hown, hon, hts, hC, hs0, hi0, hin, hR, hmt⟩ := hK
  simp only [gm_lnb, decide_eq_true_eq] at hln
  subst hln
  simp only [gm_stp, gm_i] at hs
  split at hs
  · rename_i z r
    unfold gm_nwa at hs
    split at hs
    · rename_i hc
      obtain ⟨hl, hz, hc1, hc2⟩ := hc
      obtain ⟨u1, u2, u3, u4⟩ := gm_nc_up hmt hi0 hR (w := 1) (by decide) hc1 hc2
      have hsl := gm_SL_succ hl
      have hmo := gm_SL_mono u1
      have hN : gm_sz (1, z.toNatClampNeg) = z.toNatClampNeg := rfl
      rw [hN] at hsl
      have hzb := List.all_eq_true.mp gm_LS_ok _ (List.mem_of_getElem? hl)
      simp only [decide_eq_true_eq] at hzb
      unfold gm_nx at hs
      cases hs
      refine gw_newa hx hb hts hC.1 hP (gm_T_in (gm_wd_in (p := 248) rfl) rfl) hl hz hzb u3 (by omega) (by simp) hd (fun H1 hP1 => ?_)
      refine W.cs (cells' := n + 1 - n0) (slots' := gm_SL (n + 1) - gm_SL n0) (by omega) (by omega) ?_
      have h9 := kk H1 ls locs hP1 hv hvl (by omega) (fun h => absurd h u2) hlo
      have hn9 : n < 1000 := by
        have := (List.getElem?_eq_some_iff.mp hl).1
        rw [gm_LAY_len] at this
        omega
      rw [List.map_cons, gm_tr_ref (by omega), show gm_ad g n = gm_bs g + n from if_pos hn9] at h9
      exact h9
    · cases hs
  · cases hs

theorem gs_newarray_byte (hK : gm_Ks g M n0 p R s m args meth c) (hd : decode (gm_b M) pc = .ok (.newarray .byte, len)) (hln : gm_lnb (.newarray .byte) len = true) (hs : gm_stp M (.newarray .byte) pc vs st n rf im lm = some (.inl (pc', vs', st', n', rf', im', lm'))) (hP : gm_P g n rf im lm H) (hv : gm_lv g ls vs) (hvl : vs.length = gm_ml M) (hn : n0 ≤ n) (hnc : gm_nc M = 0 → n = n0) (hlo : ∀ q ∈ locs, gm_A g q.base)
    (kk : ∀ (H1 : Heap) (ls1 : Array Slot) (locs1 : List Loc), gm_P g n' rf' im' lm' H1 → gm_lv g ls1 vs' → vs'.length = gm_ml M → n0 ≤ n' → (gm_nc M = 0 → n' = n0) → (∀ q ∈ locs1, gm_A g q.base) → W p l e R s m args below meth c H1 locs1 (n' - n0) (gm_SL n' - gm_SL n0) Q (F0 m pc' ls1 (st'.map (gm_tr g)))) : W p l e R s m args below meth c H locs (n - n0) (gm_SL n - gm_SL n0) Q (F0 m pc ls (st.map (gm_tr g))) := by
  obtain ⟨hx, hb, hml, hown, hon, hts, hC, hs0, hi0, hin, hR, hmt⟩ := hK
  simp only [gm_lnb, decide_eq_true_eq] at hln
  subst hln
  simp only [gm_stp, gm_i] at hs
  split at hs
  · rename_i z r
    unfold gm_nwa at hs
    split at hs
    · rename_i hc
      obtain ⟨hl, hz, hc1, hc2⟩ := hc
      obtain ⟨u1, u2, u3, u4⟩ := gm_nc_up hmt hi0 hR (w := 1) (by decide) hc1 hc2
      have hsl := gm_SL_succ hl
      have hmo := gm_SL_mono u1
      have hN : gm_sz (2, z.toNatClampNeg) = z.toNatClampNeg := rfl
      rw [hN] at hsl
      have hzb := List.all_eq_true.mp gm_LS_ok _ (List.mem_of_getElem? hl)
      simp only [decide_eq_true_eq] at hzb
      unfold gm_nx at hs
      cases hs
      refine gw_newa hx hb hts hC.1 hP (gm_T_in (gm_wd_in (p := 218) rfl) rfl) hl hz hzb u3 (by omega) (by simp) hd (fun H1 hP1 => ?_)
      refine W.cs (cells' := n + 1 - n0) (slots' := gm_SL (n + 1) - gm_SL n0) (by omega) (by omega) ?_
      have h9 := kk H1 ls locs hP1 hv hvl (by omega) (fun h => absurd h u2) hlo
      have hn9 : n < 1000 := by
        have := (List.getElem?_eq_some_iff.mp hl).1
        rw [gm_LAY_len] at this
        omega
      rw [List.map_cons, gm_tr_ref (by omega), show gm_ad g n = gm_bs g + n from if_pos hn9] at h9
      exact h9
    · cases hs
  · cases hs

theorem gs_newarray_boolean (hK : gm_Ks g M n0 p R s m args meth c) (hd : decode (gm_b M) pc = .ok (.newarray .boolean, len)) (hln : gm_lnb (.newarray .boolean) len = true) (hs : gm_stp M (.newarray .boolean) pc vs st n rf im lm = some (.inl (pc', vs', st', n', rf', im', lm'))) (hP : gm_P g n rf im lm H) (hv : gm_lv g ls vs) (hvl : vs.length = gm_ml M) (hn : n0 ≤ n) (hnc : gm_nc M = 0 → n = n0) (hlo : ∀ q ∈ locs, gm_A g q.base)
    (kk : ∀ (H1 : Heap) (ls1 : Array Slot) (locs1 : List Loc), gm_P g n' rf' im' lm' H1 → gm_lv g ls1 vs' → vs'.length = gm_ml M → n0 ≤ n' → (gm_nc M = 0 → n' = n0) → (∀ q ∈ locs1, gm_A g q.base) → W p l e R s m args below meth c H1 locs1 (n' - n0) (gm_SL n' - gm_SL n0) Q (F0 m pc' ls1 (st'.map (gm_tr g)))) : W p l e R s m args below meth c H locs (n - n0) (gm_SL n - gm_SL n0) Q (F0 m pc ls (st.map (gm_tr g))) := by
  obtain ⟨hx, hb, hml, hown, hon, hts, hC, hs0, hi0, hin, hR, hmt⟩ := hK
  simp only [gm_lnb, decide_eq_true_eq] at hln
  subst hln
  simp only [gm_stp, gm_i] at hs
  split at hs
  · rename_i z r
    unfold gm_nwa at hs
    split at hs
    · rename_i hc
      obtain ⟨hl, hz, hc1, hc2⟩ := hc
      obtain ⟨u1, u2, u3, u4⟩ := gm_nc_up hmt hi0 hR (w := 1) (by decide) hc1 hc2
      have hsl := gm_SL_succ hl
      have hmo := gm_SL_mono u1
      have hN : gm_sz (3, z.toNatClampNeg) = z.toNatClampNeg := rfl
      rw [hN] at hsl
      have hzb := List.all_eq_true.mp gm_LS_ok _ (List.mem_of_getElem? hl)
      simp only [decide_eq_true_eq] at hzb
      unfold gm_nx at hs
      cases hs
      refine gw_newa hx hb hts hC.1 hP (gm_T_in (gm_wd_in (p := 1500) rfl) rfl) hl hz hzb u3 (by omega) (by simp) hd (fun H1 hP1 => ?_)
      refine W.cs (cells' := n + 1 - n0) (slots' := gm_SL (n + 1) - gm_SL n0) (by omega) (by omega) ?_
      have h9 := kk H1 ls locs hP1 hv hvl (by omega) (fun h => absurd h u2) hlo
      have hn9 : n < 1000 := by
        have := (List.getElem?_eq_some_iff.mp hl).1
        rw [gm_LAY_len] at this
        omega
      rw [List.map_cons, gm_tr_ref (by omega), show gm_ad g n = gm_bs g + n from if_pos hn9] at h9
      exact h9
    · cases hs
  · cases hs

theorem gs_newarray_long (hK : gm_Ks g M n0 p R s m args meth c) (hd : decode (gm_b M) pc = .ok (.newarray .long, len)) (hln : gm_lnb (.newarray .long) len = true) (hs : gm_stp M (.newarray .long) pc vs st n rf im lm = some (.inl (pc', vs', st', n', rf', im', lm'))) (hP : gm_P g n rf im lm H) (hv : gm_lv g ls vs) (hvl : vs.length = gm_ml M) (hn : n0 ≤ n) (hnc : gm_nc M = 0 → n = n0) (hlo : ∀ q ∈ locs, gm_A g q.base)
    (kk : ∀ (H1 : Heap) (ls1 : Array Slot) (locs1 : List Loc), gm_P g n' rf' im' lm' H1 → gm_lv g ls1 vs' → vs'.length = gm_ml M → n0 ≤ n' → (gm_nc M = 0 → n' = n0) → (∀ q ∈ locs1, gm_A g q.base) → W p l e R s m args below meth c H1 locs1 (n' - n0) (gm_SL n' - gm_SL n0) Q (F0 m pc' ls1 (st'.map (gm_tr g)))) : W p l e R s m args below meth c H locs (n - n0) (gm_SL n - gm_SL n0) Q (F0 m pc ls (st.map (gm_tr g))) := by
  obtain ⟨hx, hb, hml, hown, hon, hts, hC, hs0, hi0, hin, hR, hmt⟩ := hK
  simp only [gm_lnb, decide_eq_true_eq] at hln
  subst hln
  simp only [gm_stp, gm_i] at hs
  split at hs
  · rename_i z r
    unfold gm_nwa at hs
    split at hs
    · rename_i hc
      obtain ⟨hl, hz, hc1, hc2⟩ := hc
      obtain ⟨u1, u2, u3, u4⟩ := gm_nc_up hmt hi0 hR (w := 1) (by decide) hc1 hc2
      have hsl := gm_SL_succ hl
      have hmo := gm_SL_mono u1
      have hN : gm_sz (4, z.toNatClampNeg) = z.toNatClampNeg := rfl
      rw [hN] at hsl
      have hzb := List.all_eq_true.mp gm_LS_ok _ (List.mem_of_getElem? hl)
      simp only [decide_eq_true_eq] at hzb
      unfold gm_nx at hs
      cases hs
      refine gw_newa hx hb hts hC.1 hP (gm_T_in (gm_wd_in (p := 219) rfl) rfl) hl hz hzb u3 (by omega) (by simp) hd (fun H1 hP1 => ?_)
      refine W.cs (cells' := n + 1 - n0) (slots' := gm_SL (n + 1) - gm_SL n0) (by omega) (by omega) ?_
      have h9 := kk H1 ls locs hP1 hv hvl (by omega) (fun h => absurd h u2) hlo
      have hn9 : n < 1000 := by
        have := (List.getElem?_eq_some_iff.mp hl).1
        rw [gm_LAY_len] at this
        omega
      rw [List.map_cons, gm_tr_ref (by omega), show gm_ad g n = gm_bs g + n from if_pos hn9] at h9
      exact h9
    · cases hs
  · cases hs

theorem gs_multianewarray {k0 k1 : Nat} (hK : gm_Ks g M n0 p R s m args meth c) (hd : decode (gm_b M) pc = .ok (.multianewarray k0 k1, len)) (hln : gm_lnb (.multianewarray k0 k1) len = true) (hs : gm_stp M (.multianewarray k0 k1) pc vs st n rf im lm = some (.inl (pc', vs', st', n', rf', im', lm'))) (hP : gm_P g n rf im lm H) (hv : gm_lv g ls vs) (hvl : vs.length = gm_ml M) (hn : n0 ≤ n) (hnc : gm_nc M = 0 → n = n0) (hlo : ∀ q ∈ locs, gm_A g q.base)
    (kk : ∀ (H1 : Heap) (ls1 : Array Slot) (locs1 : List Loc), gm_P g n' rf' im' lm' H1 → gm_lv g ls1 vs' → vs'.length = gm_ml M → n0 ≤ n' → (gm_nc M = 0 → n' = n0) → (∀ q ∈ locs1, gm_A g q.base) → W p l e R s m args below meth c H1 locs1 (n' - n0) (gm_SL n' - gm_SL n0) Q (F0 m pc' ls1 (st'.map (gm_tr g)))) : W p l e R s m args below meth c H locs (n - n0) (gm_SL n - gm_SL n0) Q (F0 m pc ls (st.map (gm_tr g))) := by
  obtain ⟨hx, hb, hml, hown, hon, hts, hC, hs0, hi0, hin, hR, hmt⟩ := hK
  simp only [gm_lnb, decide_eq_true_eq] at hln
  subst hln
  simp only [gm_stp] at hs
  split at hs
  · rename_i h0
    obtain ⟨h1, rfl, rfl⟩ := h0
    have e3 : (gm_y M).cls = "WorseSenate$Past" := by rw [h1] at hon; exact (Option.some.inj hon).symm
    rw [e3] at hown
    simp only [gm_ii] at hs
    split at hs
    · rename_i b a r
      unfold gm_mna at hs
      split at hs
      · rename_i hc
        obtain ⟨hl, ha, hbb, hbz, hrows, hc1, hc2⟩ := hc
        obtain ⟨u1, u2, u3, u4⟩ := gm_nc_up hmt hi0 hR (w := 1 + a.toNatClampNeg) (by omega) hc1 hc2
        have hsl := gm_SL_succ hl
        have hsr := gm_SL_rows hrows
        have hmo := gm_SL_mono u1
        have hN : gm_sz (5, a.toNatClampNeg) = a.toNatClampNeg := rfl
        rw [hN] at hsl
        have hza := List.all_eq_true.mp gm_LS_ok _ (List.mem_of_getElem? hl)
        simp only [decide_eq_true_eq] at hza
        have hb9 : b.toNatClampNeg ≤ 10000 := hbz
        unfold gm_nx at hs
        cases hs
        have hsum : gm_SL (n + (1 + a.toNatClampNeg)) = gm_SL n + a.toNatClampNeg + a.toNatClampNeg * b.toNatClampNeg := by
          rw [← Nat.add_assoc, hsr, hsl]
        refine gw_mna hx hb hts hown hC.1 hP hl hrows ha hbb hza hb9 (hts _ (gm_T_in (gm_wd_in (p := 385) rfl) rfl)) hC.2.2.2.2.2.2.2.2.2.2.2.2 (hts _ (gm_T_in (gm_wd_in (p := 248) rfl) rfl)) u3 (by omega) hd (fun H1 hP1 => ?_)
        refine W.cs (cells' := n + 1 + a.toNatClampNeg - n0) (slots' := gm_SL (n + 1 + a.toNatClampNeg) - gm_SL n0) (by omega) (by rw [show n + 1 + a.toNatClampNeg = n + (1 + a.toNatClampNeg) from Nat.add_assoc ..]; omega) ?_
        have h9 := kk H1 ls locs (by rw [Nat.add_assoc]; exact hP1) hv hvl (by omega) (fun h => absurd h u2) hlo
        have hn9 : n < 1000 := by
          have := (List.getElem?_eq_some_iff.mp hl).1
          rw [gm_LAY_len] at this
          omega
        rw [List.map_cons, gm_tr_ref (by omega), show gm_ad g n = gm_bs g + n from if_pos hn9] at h9
        exact h9
      · cases hs
    · cases hs
  · cases hs

end GMX
