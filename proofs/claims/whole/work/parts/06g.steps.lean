/-! one instruction of the pure machine: fields, rows, constants, new cells: written by wip/whole/gen_step.py -/
section GMT
variable {p : Program} {l : Launch} {e : Env} {R : Room} {s : State} {m : MethodId} {args : Array Value} {below : List Frame} {meth : Method} {c : Code} {H : Heap} {locs : List Loc} {cells slots : Nat} {Q : State → Prop}
variable {pc : Nat} {ls : Array Slot} {g : gm_G} {n n0 : Nat} {rf : gm_R} {im : gm_I} {lm : gm_L} {M : gm_M} {vs st : List Value}
variable {len pc' n' : Nat} {vs' st' : List Value} {rf' : gm_R} {im' : gm_I} {lm' : gm_L}
theorem gm_P.lt (hP : gm_P g n rf im lm H) {a : Nat} (ha : a < n) : a ≠ 1030 := by
  have := hP.2.2.1
  rw [gm_LAY_len] at this
  omega
theorem gm_nc_up (hmt : M ∈ gm_MT) (hi0 : gm_nc M ≠ 0 → n0 = gm_s0 M) (hR : gm_fr M ≤ R.frames ∧ gm_lo M ≤ R.locals ∧ gm_nc M ≤ R.cells ∧ gm_ns M ≤ R.slots) {w : Nat} (hw : 0 < w) (h1 : n + w ≤ gm_s0 M + gm_nc M) (h2 : gm_s0 M ≤ n) : n0 ≤ n ∧ gm_nc M ≠ 0 ∧ (n - n0) + w ≤ R.cells ∧ (gm_SL n - gm_SL n0) + (gm_SL (n + w) - gm_SL n) ≤ R.slots := by
  have hnz : gm_nc M ≠ 0 := by omega
  have he := hi0 hnz
  have hms := List.all_eq_true.mp gm_MS_ok M hmt
  simp only [Bool.or_eq_true, decide_eq_true_eq] at hms
  have hns : gm_ns M = gm_SL (gm_s0 M + gm_nc M) - gm_SL (gm_s0 M) := hms.resolve_left hnz
  have m1 := gm_SL_mono h1
  have m2 := gm_SL_mono h2
  have m3 := gm_SL_mono (Nat.le_add_right n w)
  subst he
  exact ⟨h2, hnz, by omega, by omega⟩

theorem gs_getfield {k0 : Nat} (hK : gm_Ks g M n0 p R s m args meth c) (hd : decode (gm_b M) pc = .ok (.getfield k0, len)) (hln : gm_lnb (.getfield k0) len = true) (hs : gm_stp M (.getfield k0) pc vs st n rf im lm = some (.inl (pc', vs', st', n', rf', im', lm'))) (hP : gm_P g n rf im lm H) (hv : gm_lv g ls vs) (hvl : vs.length = gm_ml M) (hn : n0 ≤ n) (hnc : gm_nc M = 0 → n = n0) (hlo : ∀ q ∈ locs, gm_A g q.base)
    (kk : ∀ (H1 : Heap) (ls1 : Array Slot) (locs1 : List Loc), gm_P g n' rf' im' lm' H1 → gm_lv g ls1 vs' → vs'.length = gm_ml M → n0 ≤ n' → (gm_nc M = 0 → n' = n0) → (∀ q ∈ locs1, gm_A g q.base) → W p l e R s m args below meth c H1 locs1 (n' - n0) (gm_SL n' - gm_SL n0) Q (F0 m pc' ls1 (st'.map (gm_tr g)))) : W p l e R s m args below meth c H locs (n - n0) (gm_SL n - gm_SL n0) Q (F0 m pc ls (st.map (gm_tr g))) := by
  obtain ⟨hx, hb, hml, hown, hon, hts, hC, hs0, hi0, hin, hR, hmt⟩ := hK
  simp only [gm_lnb, decide_eq_true_eq] at hln
  subst hln
  simp only [gm_stp] at hs
  split at hs
  · rename_i q hq
    obtain ⟨C, T, N, on, hcl, hon2, hk, hT, hfy, hlen, hlk⟩ := gm_f_spec hq
    have eon : on = (gm_y M).cls := Option.some.inj (hon2.symm.trans hon)
    subst eon
    simp only [gm_get, gm_a] at hs
    split at hs
    · rename_i o r
      split at hs
      · rename_i hc
        rw [List.map_cons, gm_tr_ref (hP.lt hc.1)]
        refine gw_get hx hb hts hown hC.1 hP hc.1 hc.2 hcl hk hT hlen (gm_link hts hC (hlk.imp And.right And.right)) hd ?_
        unfold gm_fv
        split at hs
        · rename_i h0
          rw [h0]
          unfold gm_nx at hs
          cases hs
          exact (kk H ls locs hP hv hvl hn hnc hlo)
        · rename_i h0
          rw [h0]
          unfold gm_nx at hs
          cases hs
          exact (kk H ls locs hP hv hvl hn hnc hlo)
        · rename_i h0
          rw [h0]
          unfold gm_nx at hs
          cases hs
          exact (kk H ls locs hP hv hvl hn hnc hlo)
        · rename_i h0
          rw [h0]
          split at hs
          · rename_i q1 hq1
            split at hs
            · cases hs
            · rename_i hq2
              unfold gm_nx at hs
              cases hs
              have h2 := (kk H ls locs hP hv hvl hn hnc hlo)
              rw [List.map_cons, gm_tr_ref hq2] at h2
              rw [hq1]
              exact h2
          · cases hs
        · cases hs
      · cases hs
    · cases hs
  · split at hs
    · rename_i h0
      obtain ⟨h1, rfl⟩ := h0
      have e17 : (gm_y M).cls = "java/lang/String" := by rw [h1] at hon; exact (Option.some.inj hon).symm
      rw [e17] at hown
      have hlk : (Jvm.Cond.fieldLink "java/lang/String" 9 "java/lang/String" "value" "[B").before args s = true := hts _ (gm_T_in (gm_wd_in (p := 1911) rfl) rfl)
      have hvs := gm_vS hs0 hP hn hlo
      obtain ⟨hS, -⟩ := hC.2.2.2.2.2.2.2.2.2.1
      simp only [gm_a] at hs
      split at hs
      · split at hs
        · rename_i ho
          subst ho
          unfold gm_nx at hs
          cases hs
          exact vk_getf hx hb ((hS 0 (by decide)).2.2.1.kept (gm_old hs0 hC.2.2.2.2.1)) hvs hown hlk (fun _ h => h) hd (kk H ls locs hP hv hvl hn hnc hlo)
        · split at hs
          · rename_i ho
            subst ho
            unfold gm_nx at hs
            cases hs
            exact vk_getf hx hb ((hS 1 (by decide)).2.2.1.kept (gm_old hs0 hC.2.2.2.2.1)) hvs hown hlk (fun _ h => h) hd (kk H ls locs hP hv hvl hn hnc hlo)
          · cases hs
      · cases hs
    · split at hs
      · rename_i h0
        obtain ⟨h1, rfl⟩ := h0
        have e17 : (gm_y M).cls = "java/lang/String" := by rw [h1] at hon; exact (Option.some.inj hon).symm
        rw [e17] at hown
        have hlk : (Jvm.Cond.fieldLink "java/lang/String" 15 "java/lang/String" "coder" "B").before args s = true := hts _ (gm_T_in (gm_wd_in (p := 1912) rfl) rfl)
        have hvs := gm_vS hs0 hP hn hlo
        obtain ⟨hS, -⟩ := hC.2.2.2.2.2.2.2.2.2.1
        simp only [gm_a] at hs
        split at hs
        · split at hs
          · rename_i ho
            unfold gm_nx at hs
            cases hs
            rcases ho with rfl | rfl
            · exact vk_getf hx hb ((hS 0 (by decide)).2.1.kept (gm_old hs0 hC.2.2.2.2.1)) hvs hown hlk (fun _ h => h) hd (kk H ls locs hP hv hvl hn hnc hlo)
            · exact vk_getf hx hb ((hS 1 (by decide)).2.1.kept (gm_old hs0 hC.2.2.2.2.1)) hvs hown hlk (fun _ h => h) hd (kk H ls locs hP hv hvl hn hnc hlo)
          · cases hs
        · cases hs
      · cases hs

theorem gs_getstatic {k0 : Nat} (hK : gm_Ks g M n0 p R s m args meth c) (hd : decode (gm_b M) pc = .ok (.getstatic k0, len)) (hln : gm_lnb (.getstatic k0) len = true) (hs : gm_stp M (.getstatic k0) pc vs st n rf im lm = some (.inl (pc', vs', st', n', rf', im', lm'))) (hP : gm_P g n rf im lm H) (hv : gm_lv g ls vs) (hvl : vs.length = gm_ml M) (hn : n0 ≤ n) (hnc : gm_nc M = 0 → n = n0) (hlo : ∀ q ∈ locs, gm_A g q.base)
    (kk : ∀ (H1 : Heap) (ls1 : Array Slot) (locs1 : List Loc), gm_P g n' rf' im' lm' H1 → gm_lv g ls1 vs' → vs'.length = gm_ml M → n0 ≤ n' → (gm_nc M = 0 → n' = n0) → (∀ q ∈ locs1, gm_A g q.base) → W p l e R s m args below meth c H1 locs1 (n' - n0) (gm_SL n' - gm_SL n0) Q (F0 m pc' ls1 (st'.map (gm_tr g)))) : W p l e R s m args below meth c H locs (n - n0) (gm_SL n - gm_SL n0) Q (F0 m pc ls (st.map (gm_tr g))) := by
  obtain ⟨hx, hb, hml, hown, hon, hts, hC, hs0, hi0, hin, hR, hmt⟩ := hK
  simp only [gm_lnb, decide_eq_true_eq] at hln
  subst hln
  simp only [gm_stp] at hs
  have hvs := gm_vS hs0 hP hn hlo
  split at hs
  · rename_i q hq
    unfold gm_st at hq
    cases hf : gm_ST.find? (fun e => e.1 == gm_own M && e.2.1 == k0) with
    | none => rw [hf] at hq; cases hq
    | some x =>
      rw [hf] at hq
      cases hq
      obtain ⟨a1, a2⟩ := gm_find gm_ST_ok hf
      simp only [Bool.and_eq_true, beq_iff_eq] at a2
      obtain ⟨h1, rfl⟩ := a2
      rw [h1, hon] at a1
      simp only [Bool.and_eq_true, decide_eq_true_eq] at a1
      obtain ⟨⟨b1, b2⟩, b3⟩ := a1
      unfold gm_nx at hs
      cases hs
      obtain ⟨j, hj, he⟩ : ∃ j, j < 5 ∧ x.2.2.1 = 1001 + j := ⟨x.2.2.1 - 1001, by omega, by omega⟩
      have h2 := (kk H ls locs hP hv hvl hn hnc hlo)
      rw [List.map_cons, gm_tr_ref (show x.2.2.1 ≠ 1030 by omega)] at h2
      have h3 : gm_ad g x.2.2.1 = gm_ao g (1001 + j) := by rw [he]; unfold gm_ad; rw [if_neg (by omega)]
      rw [h3] at h2
      rw [he] at b1
      exact va_getsN hx hb ((hC.2.2.2.2.2.1 j hj).1.kept (gm_old hs0 hC.2.2.2.2.1)) hvs hown (va_Nw.use rfl (hC.2.2.2.2.2.2.1 _ (gm_wd_in b1) rfl)) (fun _ h => h) hd h2
  · split at hs
    · rename_i h0
      obtain ⟨h1, rfl⟩ := h0
      have e17 : (gm_y M).cls = "java/lang/String" := by rw [h1] at hon; exact (Option.some.inj hon).symm
      rw [e17] at hown
      unfold gm_nx at hs
      cases hs
      exact va_gets hx hb (hC.2.2.2.2.2.2.2.2.2.2.1.kept (gm_old hs0 hC.2.2.2.2.1)) hvs hown (hts (Jvm.Cond.fieldLink "java/lang/String" 38 "java/lang/String" "COMPACT_STRINGS" "Z") (gm_T_in (gm_wd_in (p := 156) rfl) rfl)) (fun _ h => h) hd (kk H ls locs hP hv hvl hn hnc hlo)
    · split at hs
      · rename_i h0
        obtain ⟨h1, rfl⟩ := h0
        have e17 : (gm_y M).cls = "java/lang/String" := by rw [h1] at hon; exact (Option.some.inj hon).symm
        rw [e17] at hown
        unfold gm_nx at hs
        cases hs
        exact va_gets hx hb (hC.2.2.2.2.2.2.2.2.2.2.2.1.kept (gm_old hs0 hC.2.2.2.2.1)) hvs hown (hts (Jvm.Cond.fieldLink "java/lang/String" 1053 "jdk/internal/util/Preconditions" "SIOOBE_FORMATTER" "Ljava/util/function/BiFunction;") (gm_T_in (gm_wd_in (p := 172) rfl) rfl)) (fun _ h => h) hd (kk H ls locs hP hv hvl hn hnc hlo)
      · cases hs

theorem gm_fyc_0 {d : String} (h : gm_fyc d = 0) : parseFieldDescriptor d = some .int := by
  unfold gm_fyc at h
  split at h <;> first | assumption | cases h
theorem gm_fyc_1 {d : String} (h : gm_fyc d = 1) : parseFieldDescriptor d = some .long := by
  unfold gm_fyc at h
  split at h <;> first | assumption | cases h
theorem gm_fyc_3 {d : String} (h : gm_fyc d = 3) : parseFieldDescriptor d = some .boolean := by
  unfold gm_fyc at h
  split at h <;> first | assumption | cases h
theorem gm_fyc_2 {d : String} (h : gm_fyc d = 2) : (∃ C, parseFieldDescriptor d = some (.object C)) ∨ ∃ t, parseFieldDescriptor d = some (.array t) := by
  unfold gm_fyc at h
  split at h <;> first | exact Or.inl ⟨_, by assumption⟩ | exact Or.inr ⟨_, by assumption⟩ | cases h
theorem gm_up_at {α : Type} {f : Nat → Nat → α} {o k : Nat} {v : α} : gm_up f o k v o k = v := by simp [gm_up]
theorem gm_up_oth {α : Type} {f : Nat → Nat → α} {o k j : Nat} {v : α} (h : j ≠ k) : gm_up f o k v o j = f o j := by simp [gm_up, h]

theorem gs_putfield {k0 : Nat} (hK : gm_Ks g M n0 p R s m args meth c) (hd : decode (gm_b M) pc = .ok (.putfield k0, len)) (hln : gm_lnb (.putfield k0) len = true) (hs : gm_stp M (.putfield k0) pc vs st n rf im lm = some (.inl (pc', vs', st', n', rf', im', lm'))) (hP : gm_P g n rf im lm H) (hv : gm_lv g ls vs) (hvl : vs.length = gm_ml M) (hn : n0 ≤ n) (hnc : gm_nc M = 0 → n = n0) (hlo : ∀ q ∈ locs, gm_A g q.base)
    (kk : ∀ (H1 : Heap) (ls1 : Array Slot) (locs1 : List Loc), gm_P g n' rf' im' lm' H1 → gm_lv g ls1 vs' → vs'.length = gm_ml M → n0 ≤ n' → (gm_nc M = 0 → n' = n0) → (∀ q ∈ locs1, gm_A g q.base) → W p l e R s m args below meth c H1 locs1 (n' - n0) (gm_SL n' - gm_SL n0) Q (F0 m pc' ls1 (st'.map (gm_tr g)))) : W p l e R s m args below meth c H locs (n - n0) (gm_SL n - gm_SL n0) Q (F0 m pc ls (st.map (gm_tr g))) := by
  obtain ⟨hx, hb, hml, hown, hon, hts, hC, hs0, hi0, hin, hR, hmt⟩ := hK
  simp only [gm_lnb, decide_eq_true_eq] at hln
  subst hln
  simp only [gm_stp] at hs
  split at hs
  · rename_i q hq
    obtain ⟨C, T, N, on, hcl, hon2, hk, hT, hfy, hlen, hlk⟩ := gm_f_spec hq
    have eon : on = (gm_y M).cls := Option.some.inj (hon2.symm.trans hon)
    subst eon
    have hfe : gm_fin q.2.1 q.2.2.1 = (T q.2.2.1).2.2.2 := by unfold gm_fin; rw [hcl]
    split at hs
    · cases hs
    · rename_i hnf
      have hfin : (T q.2.2.1).2.2.2 = true → meth.name = "<init>" ∧ C = (gm_y M).cls := by
        intro hf
        rw [hfe] at hnf
        have h1 : ¬ ((gm_y M).name ≠ "<init>" ∨ gm_On[gm_own M]? ≠ (vwCl[q.2.1]?).map (fun c => c.1) ∨ q.1 ≠ 0) := fun h => hnf ⟨hf, h⟩
        rw [hon, hcl] at h1
        simp only [not_or, Decidable.not_not] at h1
        exact ⟨hin h1.1, (Option.some.inj h1.2.1).symm⟩
      have hlk2 : (Jvm.Cond.fieldLink (gm_y M).cls k0 C (T q.2.2.1).2.1 (T q.2.2.1).2.2.1).before args s = true ∨ ((T q.2.2.1).2.2.2 = false ∧ (Jvm.Cond.fieldLinkNest (gm_y M).cls k0 C (T q.2.2.1).2.1 (T q.2.2.1).2.2.1 "WorseSenate").before args s = true) := by
        rcases hlk with ⟨-, h⟩ | ⟨h0, h⟩
        · exact Or.inl (hts _ (gm_T_in h rfl))
        · refine Or.inr ⟨?_, va_Nw.use rfl (hC.2.2.2.2.2.2.1 _ h rfl)⟩
          cases hf : (T q.2.2.1).2.2.2 with
          | false => rfl
          | true =>
            rw [hfe] at hnf
            exact absurd ⟨hf, Or.inr (Or.inr h0)⟩ hnf
      simp only [gm_put] at hs
      split at hs
      · split at hs
        · rename_i hc
          obtain ⟨ho, hl, -, hty⟩ := hc
          rw [List.map_cons, List.map_cons, gm_tr_ref (hP.lt ho)]
          unfold gm_nx at hs
          cases hs
          rcases hty with h0 | ⟨h0, h01⟩
          · refine gw_put hx hb hts hown hC.1 hP ho hl hcl hk hT hlen hlk2 hfin (gm_fyc_0 (hfy ▸ h0)) rfl rfl (by unfold gm_fv; rw [h0]; simp only [gm_up_at]; rfl) (fun j hj => by simp only [gm_fv, gm_up_oth hj]) (fun a ha => ⟨rfl, gm_up_ne ha, rfl⟩) hlo hd (fun H1 locs1 hP1 hlo1 => kk H1 ls locs1 hP1 hv hvl hn hnc hlo1)
          · refine gw_put hx hb hts hown hC.1 hP ho hl hcl hk hT hlen hlk2 hfin (gm_fyc_3 (hfy ▸ h0)) (by rcases h01 with rfl | rfl <;> rfl) (by rcases h01 with rfl | rfl <;> rfl) (by unfold gm_fv; rw [h0]; simp only [gm_up_at]; rfl) (fun j hj => by simp only [gm_fv, gm_up_oth hj]) (fun a ha => ⟨rfl, gm_up_ne ha, rfl⟩) hlo hd (fun H1 locs1 hP1 hlo1 => kk H1 ls locs1 hP1 hv hvl hn hnc hlo1)
        · cases hs
      · split at hs
        · rename_i hc
          obtain ⟨ho, hl, -, h0⟩ := hc
          rw [List.map_cons, List.map_cons, gm_tr_ref (hP.lt ho)]
          unfold gm_nx at hs
          cases hs
          refine gw_put hx hb hts hown hC.1 hP ho hl hcl hk hT hlen hlk2 hfin (gm_fyc_1 (hfy ▸ h0)) rfl rfl (by unfold gm_fv; rw [h0]; simp only [gm_up_at]; rfl) (fun j hj => by simp only [gm_fv, gm_up_oth hj]) (fun a ha => ⟨rfl, rfl, gm_up_ne ha⟩) hlo hd (fun H1 locs1 hP1 hlo1 => kk H1 ls locs1 hP1 hv hvl hn hnc hlo1)
        · cases hs
      · split at hs
        · rename_i hc
          obtain ⟨ho, hq9, hl, -, h0⟩ := hc
          rw [List.map_cons, List.map_cons, gm_tr_ref (hP.lt ho), gm_tr_ref (hP.lt hq9)]
          unfold gm_nx at hs
          cases hs
          rcases gm_fyc_2 (hfy ▸ h0) with ⟨C9, h9⟩ | ⟨t9, h9⟩
          · refine gw_put hx hb hts hown hC.1 hP ho hl hcl hk hT hlen hlk2 hfin h9 rfl rfl (by unfold gm_fv; rw [h0]; simp only [gm_up_at]; rfl) (fun j hj => by simp only [gm_fv, gm_up_oth hj]) (fun a ha => ⟨gm_up_ne ha, rfl, rfl⟩) hlo hd (fun H1 locs1 hP1 hlo1 => kk H1 ls locs1 hP1 hv hvl hn hnc hlo1)
          · refine gw_put hx hb hts hown hC.1 hP ho hl hcl hk hT hlen hlk2 hfin h9 rfl rfl (by unfold gm_fv; rw [h0]; simp only [gm_up_at]; rfl) (fun j hj => by simp only [gm_fv, gm_up_oth hj]) (fun a ha => ⟨gm_up_ne ha, rfl, rfl⟩) hlo hd (fun H1 locs1 hP1 hlo1 => kk H1 ls locs1 hP1 hv hvl hn hnc hlo1)
        · cases hs
      · cases hs
  · cases hs

end GMT
