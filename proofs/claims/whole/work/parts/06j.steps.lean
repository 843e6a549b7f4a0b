/-! one instruction of the pure machine: Math, arraycopy, Object(); all together: written by wip/whole/gen_step.py -/
theorem gm_c7 {o i : Nat} {t : Nat × Nat × Nat × Nat} (h : gm_c o i = some (7, t)) : ∃ on, gm_On[o]? = some on ∧ Jvm.Cond.methodLink on i arraycopyName ∈ lw_tbl ∧ Jvm.Cond.static arraycopyName ∈ lw_tbl := by
  have h1 := gm_c_spec h
  simp only [gm_CTb] at h1
  split at h1
  · rename_i N on hN ho
    simp only [Bool.and_eq_true, decide_eq_true_eq] at h1
    exact ⟨on, ho, gm_wd_in h1.1, gm_wd_in h1.2⟩
  · cases h1
theorem gm_c11 {o i : Nat} {t : Nat × Nat × Nat × Nat} (h : gm_c o i = some (11, t)) : ∃ on, gm_On[o]? = some on ∧ Jvm.Cond.methodLink on i Lib.Math.max.name ∈ lw_tbl ∧ Jvm.Cond.static Lib.Math.max.name ∈ lw_tbl := by
  have h1 := gm_c_spec h
  simp only [gm_CTb] at h1
  split at h1
  · rename_i N on hN ho
    simp only [Bool.and_eq_true, decide_eq_true_eq] at h1
    exact ⟨on, ho, gm_wd_in h1.1, gm_wd_in h1.2⟩
  · cases h1
theorem gm_c12 {o i : Nat} {t : Nat × Nat × Nat × Nat} (h : gm_c o i = some (12, t)) : ∃ on, gm_On[o]? = some on ∧ Jvm.Cond.methodLink on i Lib.Math.min.name ∈ lw_tbl ∧ Jvm.Cond.static Lib.Math.min.name ∈ lw_tbl := by
  have h1 := gm_c_spec h
  simp only [gm_CTb] at h1
  split at h1
  · rename_i N on hN ho
    simp only [Bool.and_eq_true, decide_eq_true_eq] at h1
    exact ⟨on, ho, gm_wd_in h1.1, gm_wd_in h1.2⟩
  · cases h1
theorem gm_c6 {o i : Nat} {t : Nat × Nat × Nat × Nat} (h : gm_c o i = some (6, t)) : ∃ on, gm_On[o]? = some on ∧ Jvm.Cond.methodLink on i objectInit ∈ lw_tbl ∧ Jvm.Cond.instanceMethod objectInit ∈ lw_tbl := by
  have h1 := gm_c_spec h
  simp only [gm_CTb] at h1
  split at h1
  · rename_i N on hN ho
    simp only [Bool.and_eq_true, decide_eq_true_eq] at h1
    exact ⟨on, ho, gm_wd_in h1.1, gm_wd_in h1.2⟩
  · cases h1
theorem gm_cl_inl {M : gm_M} {k pc : Nat} {vs st : List Value} {n np : Nat} {x : gm_Nx} (h : gm_cl M k pc vs st n np = some (.inl x)) : False := by
  unfold gm_cl at h
  split at h
  · split at h
    · cases h
    · cases h
  · cases h
section GMY
variable {p : Program} {l : Launch} {e : Env} {R : Room} {s : State} {m : MethodId} {args : Array Value} {below : List Frame} {meth : Method} {c : Code} {H : Heap} {locs : List Loc} {cells slots : Nat} {Q : State → Prop}
variable {pc : Nat} {ls : Array Slot} {g : gm_G} {n n0 : Nat} {rf : gm_R} {im : gm_I} {lm : gm_L} {M : gm_M} {vs st : List Value} {cc : ByteArray} {rest : List Value}
variable {len pc' n' : Nat} {vs' st' : List Value} {rf' : gm_R} {im' : gm_I} {lm' : gm_L}
theorem gm_cat_map (r : List Value) : ((r.map (gm_tr g)).map fun v => v.category).sum = (r.map fun v => v.category).sum := by
  rw [List.map_map]
  congr 1
  exact List.map_congr_left (fun v _ => gm_tr_cat v)

theorem gs_invokestatic {k0 : Nat} (hK : gm_Ks g M n0 p R s m args meth c) (hd : decode (gm_b M) pc = .ok (.invokestatic k0, len)) (hln : gm_lnb (.invokestatic k0) len = true) (hs : gm_stp M (.invokestatic k0) pc vs st n rf im lm = some (.inl (pc', vs', st', n', rf', im', lm'))) (hP : gm_P g n rf im lm H) (hv : gm_lv g ls vs) (hvl : vs.length = gm_ml M) (hn : n0 ≤ n) (hnc : gm_nc M = 0 → n = n0) (hlo : ∀ q ∈ locs, gm_A g q.base)
    (kk : ∀ (H1 : Heap) (ls1 : Array Slot) (locs1 : List Loc), gm_P g n' rf' im' lm' H1 → gm_lv g ls1 vs' → vs'.length = gm_ml M → n0 ≤ n' → (gm_nc M = 0 → n' = n0) → (∀ q ∈ locs1, gm_A g q.base) → W p l e R s m args below meth c H1 locs1 (n' - n0) (gm_SL n' - gm_SL n0) Q (F0 m pc' ls1 (st'.map (gm_tr g)))) : W p l e R s m args below meth c H locs (n - n0) (gm_SL n - gm_SL n0) Q (F0 m pc ls (st.map (gm_tr g))) := by
  obtain ⟨hx, hb, hml, hown, hon, hts, hC, hs0, hi0, hin, hR, hmt⟩ := hK
  simp only [gm_lnb, decide_eq_true_eq] at hln
  subst hln
  simp only [gm_stp] at hs
  have hsz : c.maxLocals = ls.size := by rw [hml, hv.1, hvl]
  split at hs
  · split at hs
    · exact (gm_cl_inl hs).elim
    · cases hs
  · split at hs
    · exact (gm_cl_inl hs).elim
    · cases hs
  · rename_i t ht
    obtain ⟨on, h1, h2, h3⟩ := gm_c11 ht
    have eon : on = (gm_y M).cls := Option.some.inj (h1.symm.trans hon)
    subst eon
    simp only [gm_ii] at hs
    split at hs
    · split at hs
      · rename_i r hc
        obtain ⟨c1, c2, c3, c4⟩ := hc
        unfold gm_nx at hs
        cases hs
        have hn9 := hnc c4
        subst hn9
        refine va_mmax hx hb hsz hown (hts _ (gm_T_in h2 rfl)) (hts _ (gm_T_in h3 rfl)) (hts (Jvm.Cond.initialized "java/lang/Math") (gm_T_in (gm_wd_in (p := 122) rfl) rfl)) (hts (Jvm.Cond.code Lib.Math.max.name Lib.Math.max.code 2 (some .int)) (gm_T_in (gm_wd_in (p := 639) (by decide +kernel)) rfl)) (by omega) (by rw [gm_cat_map]; omega) (by omega) (by omega) hd (kk H ls locs hP hv hvl hn hnc hlo)
      · cases hs
    · cases hs
  · rename_i t ht
    obtain ⟨on, h1, h2, h3⟩ := gm_c12 ht
    have eon : on = (gm_y M).cls := Option.some.inj (h1.symm.trans hon)
    subst eon
    simp only [gm_ii] at hs
    split at hs
    · split at hs
      · rename_i r hc
        obtain ⟨c1, c2, c3, c4⟩ := hc
        unfold gm_nx at hs
        cases hs
        have hn9 := hnc c4
        subst hn9
        refine va_mmin hx hb hsz hown (hts _ (gm_T_in h2 rfl)) (hts _ (gm_T_in h3 rfl)) (hts (Jvm.Cond.initialized "java/lang/Math") (gm_T_in (gm_wd_in (p := 122) rfl) rfl)) (hts (Jvm.Cond.code Lib.Math.min.name Lib.Math.min.code 2 (some .int)) (gm_T_in (gm_wd_in (p := 642) (by decide +kernel)) rfl)) (by omega) (by rw [gm_cat_map]; omega) (by omega) (by omega) hd (kk H ls locs hP hv hvl hn hnc hlo)
      · cases hs
    · cases hs
  · rename_i t ht
    obtain ⟨on, h1, h2, h3⟩ := gm_c7 ht
    have eon : on = (gm_y M).cls := Option.some.inj (h1.symm.trans hon)
    subst eon
    split at hs
    · split at hs
      · rename_i hc
        obtain ⟨c1, c2, c3, rfl, rfl, rfl, c7, c8, c9, c10, c11⟩ := hc
        unfold gm_nx at hs
        cases hs
        rw [List.map_cons, List.map_cons, List.map_cons, List.map_cons, List.map_cons, gm_tr_ref (hP.lt c1), gm_tr_ref (hP.lt c2)]
        exact gw_copy hx hb hsz hown (hts _ (gm_T_in h2 rfl)) (hts (Jvm.Cond.native arraycopyName) (gm_T_in (gm_wd_in (p := 918) rfl) rfl)) (hts _ (gm_T_in h3 rfl)) (hts (Jvm.Cond.initialized "java/lang/System") (gm_T_in (gm_wd_in (p := 124) rfl) rfl)) hC.1 hP c1 c2 c3 c7 c8 hlo (by omega) (by omega) (by rw [gm_cat_map]; exact c11) hd (fun H1 locs1 hP1 hlo1 => kk H1 ls locs1 hP1 hv hvl hn hnc hlo1)
      · cases hs
    · cases hs
  · cases hs

theorem gs_invokevirtual {k0 : Nat} (hK : gm_Ks g M n0 p R s m args meth c) (hd : decode (gm_b M) pc = .ok (.invokevirtual k0, len)) (hln : gm_lnb (.invokevirtual k0) len = true) (hs : gm_stp M (.invokevirtual k0) pc vs st n rf im lm = some (.inl (pc', vs', st', n', rf', im', lm'))) (hP : gm_P g n rf im lm H) (hv : gm_lv g ls vs) (hvl : vs.length = gm_ml M) (hn : n0 ≤ n) (hnc : gm_nc M = 0 → n = n0) (hlo : ∀ q ∈ locs, gm_A g q.base)
    (kk : ∀ (H1 : Heap) (ls1 : Array Slot) (locs1 : List Loc), gm_P g n' rf' im' lm' H1 → gm_lv g ls1 vs' → vs'.length = gm_ml M → n0 ≤ n' → (gm_nc M = 0 → n' = n0) → (∀ q ∈ locs1, gm_A g q.base) → W p l e R s m args below meth c H1 locs1 (n' - n0) (gm_SL n' - gm_SL n0) Q (F0 m pc' ls1 (st'.map (gm_tr g)))) : W p l e R s m args below meth c H locs (n - n0) (gm_SL n - gm_SL n0) Q (F0 m pc ls (st.map (gm_tr g))) := by
  obtain ⟨hx, hb, hml, hown, hon, hts, hC, hs0, hi0, hin, hR, hmt⟩ := hK
  simp only [gm_lnb, decide_eq_true_eq] at hln
  subst hln
  simp only [gm_stp] at hs
  split at hs
  · split at hs
    · split at hs
      · split at hs
        · exact (gm_cl_inl hs).elim
        · split at hs
          · exact (gm_cl_inl hs).elim
          · cases hs
      · cases hs
    · cases hs
  · cases hs

theorem gs_invokespecial {k0 : Nat} (hK : gm_Ks g M n0 p R s m args meth c) (hd : decode (gm_b M) pc = .ok (.invokespecial k0, len)) (hln : gm_lnb (.invokespecial k0) len = true) (hs : gm_stp M (.invokespecial k0) pc vs st n rf im lm = some (.inl (pc', vs', st', n', rf', im', lm'))) (hP : gm_P g n rf im lm H) (hv : gm_lv g ls vs) (hvl : vs.length = gm_ml M) (hn : n0 ≤ n) (hnc : gm_nc M = 0 → n = n0) (hlo : ∀ q ∈ locs, gm_A g q.base)
    (kk : ∀ (H1 : Heap) (ls1 : Array Slot) (locs1 : List Loc), gm_P g n' rf' im' lm' H1 → gm_lv g ls1 vs' → vs'.length = gm_ml M → n0 ≤ n' → (gm_nc M = 0 → n' = n0) → (∀ q ∈ locs1, gm_A g q.base) → W p l e R s m args below meth c H1 locs1 (n' - n0) (gm_SL n' - gm_SL n0) Q (F0 m pc' ls1 (st'.map (gm_tr g)))) : W p l e R s m args below meth c H locs (n - n0) (gm_SL n - gm_SL n0) Q (F0 m pc ls (st.map (gm_tr g))) := by
  obtain ⟨hx, hb, hml, hown, hon, hts, hC, hs0, hi0, hin, hR, hmt⟩ := hK
  simp only [gm_lnb, decide_eq_true_eq] at hln
  subst hln
  simp only [gm_stp] at hs
  have hsz : ls.size = c.maxLocals := by rw [hml, hv.1, hvl]
  split at hs
  · rename_i t ht
    obtain ⟨on, h1, h2, h3⟩ := gm_c6 ht
    have eon : on = (gm_y M).cls := Option.some.inj (h1.symm.trans hon)
    subst eon
    split at hs
    · rename_i hc
      simp only [gm_a] at hs
      split at hs
      · rename_i a r
        split at hs
        · rename_i hr
          unfold gm_nx at hs
          cases hs
          have ha : a ≠ 1030 := hr.2
          · rw [List.map_cons, gm_tr_ref ha]
            refine W.objInit hx hb hown (hts _ (gm_T_in h2 rfl)) (hts _ (gm_T_in h3 rfl)) (hts (Jvm.Cond.code objectInit ⟨#[0xb1]⟩ 1 none) (gm_T_in (gm_wd_in (p := 134) (by decide +kernel)) rfl)) rfl hsz rfl hd (by omega) ?_ (kk H ls locs hP hv hvl hn hnc hlo)
            show 2 * 0 + _ + 12 ≤ _
            rw [gm_cat_map]
            have := hr.1
            omega
        · cases hs
      · cases hs
    · cases hs
  · split at hs
    · split at hs
      · split at hs
        · exact (gm_cl_inl hs).elim
        · cases hs
      · cases hs
    · cases hs
  · split at hs
    · split at hs
      · split at hs
        · exact (gm_cl_inl hs).elim
        · cases hs
      · cases hs
    · cases hs
  · cases hs

theorem gs_all {ins : Instr} (hK : gm_Ks g M n0 p R s m args meth c) (hd : decode (gm_b M) pc = .ok (ins, len)) (hln : gm_lnb (ins) len = true) (hs : gm_stp M (ins) pc vs st n rf im lm = some (.inl (pc', vs', st', n', rf', im', lm'))) (hP : gm_P g n rf im lm H) (hv : gm_lv g ls vs) (hvl : vs.length = gm_ml M) (hn : n0 ≤ n) (hnc : gm_nc M = 0 → n = n0) (hlo : ∀ q ∈ locs, gm_A g q.base)
    (kk : ∀ (H1 : Heap) (ls1 : Array Slot) (locs1 : List Loc), gm_P g n' rf' im' lm' H1 → gm_lv g ls1 vs' → vs'.length = gm_ml M → n0 ≤ n' → (gm_nc M = 0 → n' = n0) → (∀ q ∈ locs1, gm_A g q.base) → W p l e R s m args below meth c H1 locs1 (n' - n0) (gm_SL n' - gm_SL n0) Q (F0 m pc' ls1 (st'.map (gm_tr g)))) : W p l e R s m args below meth c H locs (n - n0) (gm_SL n - gm_SL n0) Q (F0 m pc ls (st.map (gm_tr g))) := by
  cases ins
  case iconst => exact gs_iconst hK hd hln hs hP hv hvl hn hnc hlo kk
  case bipush => exact gs_bipush hK hd hln hs hP hv hvl hn hnc hlo kk
  case sipush => exact gs_sipush hK hd hln hs hP hv hvl hn hnc hlo kk
  case lconst => exact gs_lconst hK hd hln hs hP hv hvl hn hnc hlo kk
  case iadd => exact gs_iadd hK hd hln hs hP hv hvl hn hnc hlo kk
  case isub => exact gs_isub hK hd hln hs hP hv hvl hn hnc hlo kk
  case imul => exact gs_imul hK hd hln hs hP hv hvl hn hnc hlo kk
  case iand => exact gs_iand hK hd hln hs hP hv hvl hn hnc hlo kk
  case ior => exact gs_ior hK hd hln hs hP hv hvl hn hnc hlo kk
  case ixor => exact gs_ixor hK hd hln hs hP hv hvl hn hnc hlo kk
  case ishl => exact gs_ishl hK hd hln hs hP hv hvl hn hnc hlo kk
  case ishr => exact gs_ishr hK hd hln hs hP hv hvl hn hnc hlo kk
  case iushr => exact gs_iushr hK hd hln hs hP hv hvl hn hnc hlo kk
  case ladd => exact gs_ladd hK hd hln hs hP hv hvl hn hnc hlo kk
  case lsub => exact gs_lsub hK hd hln hs hP hv hvl hn hnc hlo kk
  case lmul => exact gs_lmul hK hd hln hs hP hv hvl hn hnc hlo kk
  case lcmp => exact gs_lcmp hK hd hln hs hP hv hvl hn hnc hlo kk
  case lushr => exact gs_lushr hK hd hln hs hP hv hvl hn hnc hlo kk
  case lshl => exact gs_lshl hK hd hln hs hP hv hvl hn hnc hlo kk
  case i2l => exact gs_i2l hK hd hln hs hP hv hvl hn hnc hlo kk
  case i2b => exact gs_i2b hK hd hln hs hP hv hvl hn hnc hlo kk
  case i2c => exact gs_i2c hK hd hln hs hP hv hvl hn hnc hlo kk
  case l2i => exact gs_l2i hK hd hln hs hP hv hvl hn hnc hlo kk
  case idiv => exact gs_idiv hK hd hln hs hP hv hvl hn hnc hlo kk
  case irem => exact gs_irem hK hd hln hs hP hv hvl hn hnc hlo kk
  case dup => exact gs_dup hK hd hln hs hP hv hvl hn hnc hlo kk
  case pop => exact gs_pop hK hd hln hs hP hv hvl hn hnc hlo kk
  case dup2 => exact gs_dup2 hK hd hln hs hP hv hvl hn hnc hlo kk
  case iload_n => exact gs_iload_n hK hd hln hs hP hv hvl hn hnc hlo kk
  case iload => exact gs_iload hK hd hln hs hP hv hvl hn hnc hlo kk
  case lload_n => exact gs_lload_n hK hd hln hs hP hv hvl hn hnc hlo kk
  case lload => exact gs_lload hK hd hln hs hP hv hvl hn hnc hlo kk
  case aload_n => exact gs_aload_n hK hd hln hs hP hv hvl hn hnc hlo kk
  case istore_n => exact gs_istore_n hK hd hln hs hP hv hvl hn hnc hlo kk
  case istore => exact gs_istore hK hd hln hs hP hv hvl hn hnc hlo kk
  case lstore_n => exact gs_lstore_n hK hd hln hs hP hv hvl hn hnc hlo kk
  case lstore => exact gs_lstore hK hd hln hs hP hv hvl hn hnc hlo kk
  case astore_n => exact gs_astore_n hK hd hln hs hP hv hvl hn hnc hlo kk
  case iinc => exact gs_iinc hK hd hln hs hP hv hvl hn hnc hlo kk
  case goto => exact gs_goto hK hd hln hs hP hv hvl hn hnc hlo kk
  case tableswitch => exact gs_tableswitch hK hd hln hs hP hv hvl hn hnc hlo kk
  case getfield => exact gs_getfield hK hd hln hs hP hv hvl hn hnc hlo kk
  case putfield => exact gs_putfield hK hd hln hs hP hv hvl hn hnc hlo kk
  case getstatic => exact gs_getstatic hK hd hln hs hP hv hvl hn hnc hlo kk
  case iaload => exact gs_iaload hK hd hln hs hP hv hvl hn hnc hlo kk
  case baload => exact gs_baload hK hd hln hs hP hv hvl hn hnc hlo kk
  case laload => exact gs_laload hK hd hln hs hP hv hvl hn hnc hlo kk
  case aaload => exact gs_aaload hK hd hln hs hP hv hvl hn hnc hlo kk
  case iastore => exact gs_iastore hK hd hln hs hP hv hvl hn hnc hlo kk
  case lastore => exact gs_lastore hK hd hln hs hP hv hvl hn hnc hlo kk
  case bastore => exact gs_bastore hK hd hln hs hP hv hvl hn hnc hlo kk
  case arraylength => exact gs_arraylength hK hd hln hs hP hv hvl hn hnc hlo kk
  case ldc => exact gs_ldc hK hd hln hs hP hv hvl hn hnc hlo kk
  case ldc_w => exact gs_ldc_w hK hd hln hs hP hv hvl hn hnc hlo kk
  case ldc2_w => exact gs_ldc2_w hK hd hln hs hP hv hvl hn hnc hlo kk
  case new => exact gs_new hK hd hln hs hP hv hvl hn hnc hlo kk
  case multianewarray => exact gs_multianewarray hK hd hln hs hP hv hvl hn hnc hlo kk
  case invokestatic => exact gs_invokestatic hK hd hln hs hP hv hvl hn hnc hlo kk
  case invokevirtual => exact gs_invokevirtual hK hd hln hs hP hv hvl hn hnc hlo kk
  case invokespecial => exact gs_invokespecial hK hd hln hs hP hv hvl hn hnc hlo kk
  case ifCond cd off => cases cd
                        case eq => exact gs_ifCond_eq hK hd hln hs hP hv hvl hn hnc hlo kk
                        case ne => exact gs_ifCond_ne hK hd hln hs hP hv hvl hn hnc hlo kk
                        case lt => exact gs_ifCond_lt hK hd hln hs hP hv hvl hn hnc hlo kk
                        case ge => exact gs_ifCond_ge hK hd hln hs hP hv hvl hn hnc hlo kk
                        case gt => exact gs_ifCond_gt hK hd hln hs hP hv hvl hn hnc hlo kk
                        case le => exact gs_ifCond_le hK hd hln hs hP hv hvl hn hnc hlo kk
  case if_icmp cd off => cases cd
                         case eq => exact gs_if_icmp_eq hK hd hln hs hP hv hvl hn hnc hlo kk
                         case ne => exact gs_if_icmp_ne hK hd hln hs hP hv hvl hn hnc hlo kk
                         case lt => exact gs_if_icmp_lt hK hd hln hs hP hv hvl hn hnc hlo kk
                         case ge => exact gs_if_icmp_ge hK hd hln hs hP hv hvl hn hnc hlo kk
                         case gt => exact gs_if_icmp_gt hK hd hln hs hP hv hvl hn hnc hlo kk
                         case le => exact gs_if_icmp_le hK hd hln hs hP hv hvl hn hnc hlo kk
  case newarray t =>
    cases t
    case int => exact gs_newarray_int hK hd hln hs hP hv hvl hn hnc hlo kk
    case byte => exact gs_newarray_byte hK hd hln hs hP hv hvl hn hnc hlo kk
    case boolean => exact gs_newarray_boolean hK hd hln hs hP hv hvl hn hnc hlo kk
    case long => exact gs_newarray_long hK hd hln hs hP hv hvl hn hnc hlo kk
    all_goals (simp only [gm_stp, gm_i] at hs; split at hs <;> cases hs)
  case ireturn =>
    simp only [gm_stp, gm_i] at hs
    split at hs
    · split at hs
      · split at hs
        · split at hs <;> cases hs
        · cases hs
      · cases hs
    · cases hs
  case lreturn =>
    simp only [gm_stp, gm_l] at hs
    split at hs
    · split at hs <;> cases hs
    · cases hs
  case return_ =>
    simp only [gm_stp] at hs
    split at hs <;> cases hs
  all_goals (simp only [gm_stp] at hs; cases hs)

end GMY
