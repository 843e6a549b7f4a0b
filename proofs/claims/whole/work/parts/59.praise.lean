/-! what changes: praise, swear, reads -/
theorem agr_no {kc km : Nat} {as bs : List Value} {B : gm_I} {lm : gm_L} {l nm nk nj ns : Nat} (hI : Inv B lm l nm nk nj ns) (v : Int32) (hc : gm_den kc 0 as [] 128 gm_RF B lm = some (some (.int v), 128, gm_RF, B, lm)) (hm : ∃ im2, gm_den km 0 bs [] 128 gm_RF B lm = some (some (.int v), 128, gm_RF, im2, lm) ∧ Off B im2) : ∃ (v : Int32) (im1 : gm_I) (lm1 : gm_L) (im2 : gm_I) (lm2 : gm_L) (l' nm' nk' nj' ns' : Nat), gm_den kc 0 as [] 128 gm_RF B lm = some (some (.int v), 128, gm_RF, im1, lm1) ∧ gm_den km 0 bs [] 128 gm_RF im1 lm1 = some (some (.int v), 128, gm_RF, im2, lm2) ∧ Inv im2 lm2 l' nm' nk' nj' ns' := by
  obtain ⟨im2, h3, o3⟩ := hm
  exact ⟨v, B, lm, im2, lm, l, nm, nk, nj, ns, hc, h3, Inv_off hI o3 (LK.rf lm)⟩
theorem A_praise (a : Int32) : Agr 119 234 [.ref 0, .int a, .null] [.ref 84, .int a] := by
  intro B lm l nm nk nj ns hI
  have hI0 := hI
  obtain ⟨hR, hr, ⟨nx, sz, hx, hz, e2, e3, e54, hp⟩, -⟩ := hI
  have hm7 := iR_nm hR
  have hk5 := iR_nk hR
  have n1 : Value.category .null = 1 := rfl
  have ho := Off.rf B
  cases hg : okI nm a with
  | false =>
    refine agr_no hI0 (-1) ?_ ⟨B, ?_, ho⟩
    · simp (decide := true) only [QX11_praise, Cg_man hR ho, hg, b32_f, gm_cont_i, if_true, if_false]
    · simp (decide := true) only [QX12_praise, Mg_man hR ho, hg, b32_f, gm_cont_i, if_true, if_false]
  | true =>
    obtain ⟨j, hj, rfl⟩ := okI_t (by omega) hg
    have hj7 : j < 7 := by omega
    obtain ⟨hpc, p, hp9, hpr⟩ := rR_prs hr hj
    by_cases h9 : p = 9
    · subst h9
      have h9' : B 116 (35 + j) = 9 := hpr
      refine agr_no hI0 (-2) ?_ ⟨B, ?_, ho⟩
      · simp (decide := true) only [QX11_praise, Cg_man hR ho, hg, b32_t, gm_cont_i, if_true, if_false, C_get j B lm hj7, gm_cat_i, n1, hpc, h9']
      · simp (decide := true) only [QX12_praise, Mg_man hR ho, hg, b32_t, gm_cont_i, if_true, if_false, ixr7 j hj7, h9']
    · have hlt : nI p < 9 := nI_lt (b := 9) (by omega) (by decide)
      have hne : ¬ nI p = 9 := fun e => by
        have h8 := nI_clamp (show p < 2 ^ 31 by omega)
        rw [e] at h8
        have : (9 : Int32).toNatClampNeg = 9 := by decide
        omega
      obtain ⟨cm0, row0⟩ := cMod_keep (B := B) (sz := sz) hx
      have hk := C_keep hx hz e2 e3 lm
      let im1 := gm_up (cKp B nx sz) 22 (10 * j + 5) (nI (p + 1))
      have cm1 : cMod B nx sz im1 := cm0.up
      have hR1 := cm1.roll hR hx
      have e116 : im1 116 = B 116 := cm1.1 116 rfl (by decide) (by decide) (by omega)
      obtain ⟨jm1, c1, p1, r1, -, -⟩ := M_copies hR1 (Off.rf im1) lm
      rw [e116] at r1
      let jm := gm_up jm1 117 (35 + j) (nI (p + 1))
      have pj : Off im1 jm := p1.up rfl (by decide)
      have cj : ∀ i, i ≠ 10 * j + 5 → im1 22 i = B 22 i := fun i a => by
        show gm_up (cKp B nx sz) 22 (10 * j + 5) (nI (p + 1)) 22 i = _
        rw [gu_nk a]; exact row0 i
      have rj : ∀ i, i < 80 → i ≠ 35 + j → jm 117 i = B 116 i := fun i h a => by
        show gm_up jm1 117 (35 + j) (nI (p + 1)) 117 i = _
        rw [gu_nk a]; exact r1 i h
      have hrel : rRel (im1 22) (jm 117) nm nk ns := by
        refine rRel_mk (fun b hb => ?_) (fun q hq => ?_) ?_ ?_
        · by_cases e : b = j
          · subst e
            obtain ⟨h0, h1, h2, h3, h4, h5, h6, h7, h8, h9⟩ := rRel_man hr hj
            have c5 : im1 22 (10 * b + 5) = nI (p + 1) := gu_eq
            have r35 : jm 117 (35 + b) = nI (p + 1) := gu_eq
            refine ⟨?_, ?_, ?_, ⟨?_, ?_⟩, ?_, ⟨c5.trans r35.symm, p + 1, by omega, r35⟩, ?_, ?_, ?_, ?_⟩
            · rw [cj _ (by omega), rj b (by omega) (by omega)]; exact h0
            · rw [cj _ (by omega), rj (7 + b) (by omega) (by omega)]; exact h1
            · rw [cj _ (by omega), rj (14 + b) (by omega) (by omega)]; exact h2
            · rw [cj _ (by omega), rj (21 + b) (by omega) (by omega)]; exact h3.1
            · rw [rj (21 + b) (by omega) (by omega)]
              rcases h3.2 with e | ⟨m, e1, e2, e3⟩
              · exact Or.inl e
              · exact Or.inr ⟨m, e1, e2, by rw [rj _ (by omega) (by omega)]; exact e3⟩
            · rw [cj _ (by omega), rj (21 + b) (by omega) (by omega), rj (28 + b) (by omega) (by omega)]; exact h4
            · rw [cj _ (by omega), rj (42 + b) (by omega) (by omega)]; exact h6
            · rw [cj _ (by omega), rj (49 + b) (by omega) (by omega)]; exact h7
            · rw [cj _ (by omega), rj (49 + b) (by omega) (by omega), rj (56 + b) (by omega) (by omega)]; exact h8
            · rw [cj _ (by omega), rj (63 + b) (by omega) (by omega)]; exact h9
          · exact rMan_eq (fun f hf => cj _ (by omega)) (fun k hk => rj _ (by omega) (by omega)) (fun q hq h1 _ => by rw [rj _ (by omega) (by omega)]; exact h1) (rRel_man hr hb)
        · rw [cj _ (by omega), rj _ (by omega) (by omega)]; exact rR_fell hr hq
        · rw [cj _ (by omega), rj _ (by omega) (by omega)]; exact rR_day hr
        · rw [cj _ (by omega), rj _ (by omega) (by omega)]; exact rR_paid hr
      obtain ⟨im2, q1, q2, q3⟩ := push_mod hI0 hx hz e54 hp cm1 pj hrel (LK.rf lm)
      refine ⟨nI (p + 1), im1, lm, im2, lm, l, nm, nk, nj, ns, ?_, ?_, q2⟩
      · simp (decide := true) only [QX11_praise, Cg_man hR ho, hg, b32_t, gm_cont_i, gm_cont_v, if_true, if_false, C_get j B lm hj7, gm_cat_i, n1, hpc, hpr, Int32.not_le.mpr hlt, hlt, hk, C_set j _ _ lm hj7, nI_a1]
        rfl
      · have e35 : im1 116 (35 + j) = nI p := by rw [e116]; exact hpr
        have e35b : jm1 117 (35 + j) = nI p := by rw [r1 _ (by omega)]; exact hpr
        have e35c : im2 116 (35 + j) = nI (p + 1) := by rw [q3 _ (by omega)]; exact gu_eq
        simp (decide := true) only [QX12_praise, Mg_man hR1 (Off.rf im1), hg, b32_t, gm_cont_i, gm_cont_v, if_true, if_false, ixr7 j hj7, e35, hne, c1, e35b, gm_cat_i, gm_cat_r, nI_a1]
        rw [show gm_up jm1 117 (35 + j) (nI (p + 1)) = jm from rfl, q1]
        simp (decide := true) only [QX12_praise, gm_cont_v, ixr7 j hj7, if_true, e35c]
theorem A_swear (a s : Int32) : Agr 121 237 [.ref 0, .int a, .int s] [.ref 84, .int a, .int s] := by
  intro B lm l nm nk nj ns hI
  have hI0 := hI
  obtain ⟨hR, hr, ⟨nx, sz, hx, hz, e2, e3, e54, hp⟩, -⟩ := hI
  have hm7 := iR_nm hR
  have hk5 := iR_nk hR
  have hns := iR_ns hR
  have ho := Off.rf B
  cases hg : okI nm a with
  | false =>
    refine agr_no hI0 0 ?_ ⟨B, ?_, ho⟩
    · simp (decide := true) only [QX11_swear, Cg_man hR ho, hg, b32_f, gm_cont_i, if_true, if_false, nb0]
    · simp (decide := true) only [QX12_swear, Mg_man hR ho, hg, b32_f, gm_cont_i, if_true, if_false, nb0]
  | true =>
    obtain ⟨j, hj, rfl⟩ := okI_t (by omega) hg
    have hj7 : j < 7 := by omega
    cases hg2 : okI ns s with
    | false =>
      refine agr_no hI0 0 ?_ ⟨B, ?_, ho⟩
      · simp (decide := true) only [QX11_swear, Cg_man hR ho, Cg_sid hR ho, hg, hg2, b32_f, b32_t, gm_cont_i, if_true, if_false, nb0]
      · simp (decide := true) only [QX12_swear, Mg_man hR ho, Mg_sid hR ho, hg, hg2, b32_f, b32_t, gm_cont_i, if_true, if_false, nb0]
    | true =>
      obtain ⟨q, hq, rfl⟩ := okI_t (by omega) hg2
      have hln := left_neg hns hr hj
      have hlc := (rR_left hr hj).1
      have hsc := (rR_side hr hj).1
      by_cases hsw : B 116 (7 + j) = -2
      · have hsw2 : ¬ 0 ≤ B 116 (7 + j) := fun hh => hln.2.mp hh hsw
        by_cases hsd : B 116 j = nI q
        · refine agr_no hI0 0 ?_ ⟨B, ?_, ho⟩
          · simp (decide := true) only [QX11_swear, Cg_man hR ho, Cg_sid hR ho, hg, hg2, b32_t, gm_cont_i, if_true, if_false, nb0, C_isSworn j B lm hj7, hlc, hsw, C_get j B lm hj7, hsc, hsd]
          · simp (decide := true) only [QX12_swear, Mg_man hR ho, Mg_sid hR ho, hg, hg2, b32_t, gm_cont_i, if_true, if_false, nb0, ixr7 j hj7, hsw2, hsd]
        · obtain ⟨cm0, row0⟩ := cMod_keep (B := B) (sz := sz) hx
          have hk := C_keep hx hz e2 e3 lm
          let im1 := gm_up (gm_up (cKp B nx sz) 22 (10 * j + 1) (B 116 j)) 22 (10 * j + 0) (nI q)
          have cm1 : cMod B nx sz im1 := cm0.up.up
          have hR1 := cm1.roll hR hx
          have e116 : im1 116 = B 116 := cm1.1 116 rfl (by decide) (by decide) (by omega)
          obtain ⟨jm1, c1, p1, r1, -, -⟩ := M_copies hR1 (Off.rf im1) lm
          rw [e116] at r1
          let jm := gm_up (gm_up jm1 117 (7 + j) (jm1 117 j)) 117 j (nI q)
          have pj : Off im1 jm := (p1.up rfl (by decide)).up rfl (by decide)
          have cj : ∀ i, i ≠ 10 * j + 1 → i ≠ 10 * j + 0 → im1 22 i = B 22 i := fun i a b => by
            show gm_up (gm_up (cKp B nx sz) 22 (10 * j + 1) (B 116 j)) 22 (10 * j + 0) (nI q) 22 i = _
            rw [gu_nk b, gu_nk a]; exact row0 i
          have rj : ∀ i, i < 80 → i ≠ 7 + j → i ≠ j → jm 117 i = B 116 i := fun i h a b => by
            show gm_up (gm_up jm1 117 (7 + j) (jm1 117 j)) 117 j (nI q) 117 i = _
            rw [gu_nk b, gu_nk a]; exact r1 i h
          have hrel : rRel (im1 22) (jm 117) nm nk ns := by
            refine rRel_mk (fun b hb => ?_) (fun q hq => ?_) ?_ ?_
            · by_cases e : b = j
              · subst e
                obtain ⟨h0, h1, h2, h3, h4, h5, h6, h7, h8, h9⟩ := rRel_man hr hj
                have c0 : im1 22 (10 * b + 0) = nI q := gu_eq
                have c1' : im1 22 (10 * b + 1) = B 116 b := by
                  show gm_up (gm_up (cKp B nx sz) 22 (10 * b + 1) (B 116 b)) 22 (10 * b + 0) (nI q) 22 _ = _
                  rw [gu_nk (by omega), gu_eq]
                have r0 : jm 117 b = nI q := gu_eq
                have r7 : jm 117 (7 + b) = B 116 b := by
                  show gm_up (gm_up jm1 117 (7 + b) (jm1 117 b)) 117 b (nI q) 117 _ = _
                  rw [gu_nk (by omega), gu_eq]; exact r1 b (by omega)
                refine ⟨⟨c0.trans r0.symm, q, hq, r0⟩, ⟨c1'.trans r7.symm, Or.inr (by rw [r7]; exact h0.2)⟩, ?_, ⟨?_, ?_⟩, ?_, ?_, ?_, ?_, ?_, ?_⟩
                · rw [cj _ (by omega) (by omega), rj (14 + b) (by omega) (by omega) (by omega)]; exact h2
                · rw [cj _ (by omega) (by omega), rj (21 + b) (by omega) (by omega) (by omega)]; exact h3.1
                · rw [rj (21 + b) (by omega) (by omega) (by omega)]
                  rcases h3.2 with e | ⟨m, e1, e2, e3⟩
                  · exact Or.inl e
                  · exact Or.inr ⟨m, e1, e2, by rw [rj _ (by omega) (by omega) (by omega)]; exact e3⟩
                · rw [cj _ (by omega) (by omega), rj (21 + b) (by omega) (by omega) (by omega), rj (28 + b) (by omega) (by omega) (by omega)]; exact h4
                · rw [cj _ (by omega) (by omega), rj (35 + b) (by omega) (by omega) (by omega)]; exact h5
                · rw [cj _ (by omega) (by omega), rj (42 + b) (by omega) (by omega) (by omega)]; exact h6
                · rw [cj _ (by omega) (by omega), rj (49 + b) (by omega) (by omega) (by omega)]; exact h7
                · rw [cj _ (by omega) (by omega), rj (49 + b) (by omega) (by omega) (by omega), rj (56 + b) (by omega) (by omega) (by omega)]; exact h8
                · rw [cj _ (by omega) (by omega), rj (63 + b) (by omega) (by omega) (by omega)]; exact h9
              · exact rMan_eq (fun f hf => cj _ (by omega) (by omega)) (fun k hk => rj _ (by omega) (by omega) (by omega)) (fun q hq h1 _ => by rw [rj _ (by omega) (by omega) (by omega)]; exact h1) (rRel_man hr hb)
            · rw [cj _ (by omega) (by omega), rj _ (by omega) (by omega) (by omega)]; exact rR_fell hr hq
            · rw [cj _ (by omega) (by omega), rj _ (by omega) (by omega) (by omega)]; exact rR_day hr
            · rw [cj _ (by omega) (by omega), rj _ (by omega) (by omega) (by omega)]; exact rR_paid hr
          obtain ⟨im2, q1, q2, q3⟩ := push_mod hI0 hx hz e54 hp cm1 pj hrel (LK.rf lm)
          refine ⟨1, im1, lm, im2, lm, l, nm, nk, nj, ns, ?_, ?_, q2⟩
          · have ek : cKp B nx sz 22 (10 * j + 0) = B 116 j := by rw [row0]; exact hsc
            simp (decide := true) only [QX11_swear, Cg_man hR ho, Cg_sid hR ho, hg, hg2, b32_t, gm_cont_i, gm_cont_v, if_true, if_false, nb1, C_isSworn j B lm hj7, hlc, hsw, C_get j B lm hj7, hsc, hsd, hk, C_get j (cKp B nx sz) lm hj7, ek, C_set j _ _ lm hj7]
            rfl
          · simp (decide := true) only [QX12_swear, Mg_man hR1 (Off.rf im1), Mg_sid hR1 (Off.rf im1), hg, hg2, b32_t, gm_cont_i, gm_cont_v, if_true, if_false, nb1, ixr7 j hj7, e116, hsw2, hsd, c1, M_swears hj7]
            rw [show gm_up (gm_up jm1 117 (7 + j) (jm1 117 j)) 117 j (nI q) = jm from rfl, q1]
            simp (decide := true) only [QX12_swear, gm_cont_v, nb1]
      · have hsw2 := hln.2.mpr hsw
        refine agr_no hI0 0 ?_ ⟨B, ?_, ho⟩
        · simp (decide := true) only [QX11_swear, Cg_man hR ho, Cg_sid hR ho, hg, hg2, b32_t, gm_cont_i, if_true, if_false, nb0, C_isSworn j B lm hj7, hlc, hsw]
        · simp (decide := true) only [QX12_swear, Mg_man hR ho, Mg_sid hR ho, hg, hg2, b32_t, gm_cont_i, if_true, if_false, nb0, ixr7 j hj7, hsw2]
theorem A_reads (a o : Int32) : Agr 120 235 [.ref 0, .int a, .int o, .null, .null] [.ref 84, .int a, .int o, .null] := by
  intro B lm l nm nk nj ns hI
  have hI0 := hI
  obtain ⟨hR, hr, ⟨nx, sz, hx, hz, e2, e3, e54, hp⟩, -⟩ := hI
  have hm7 := iR_nm hR
  have hk5 := iR_nk hR
  have ho := Off.rf B
  have n1 : Value.category .null = 1 := rfl
  cases hg : okI nm a with
  | false =>
    refine agr_no hI0 (-1) ?_ ⟨B, ?_, ho⟩
    · simp (decide := true) only [QX11_reads, Cg_man hR ho, hg, b32_f, gm_cont_i, if_true, if_false]
    · simp (decide := true) only [QX12_reads, Mg_man hR ho, hg, b32_f, gm_cont_i, if_true, if_false]
  | true =>
    cases hg2 : okI nm o with
    | false =>
      refine agr_no hI0 (-1) ?_ ⟨B, ?_, ho⟩
      · simp (decide := true) only [QX11_reads, Cg_man hR ho, hg, hg2, b32_f, b32_t, gm_cont_i, if_true, if_false]
      · simp (decide := true) only [QX12_reads, Mg_man hR ho, hg, hg2, b32_f, b32_t, gm_cont_i, if_true, if_false]
    | true =>
      by_cases hao : a = o
      · subst hao
        refine agr_no hI0 (-1) ?_ ⟨B, ?_, ho⟩
        · simp (decide := true) only [QX11_reads, Cg_man hR ho, hg, b32_t, gm_cont_i, if_true, if_false]
        · simp (decide := true) only [QX12_reads, Mg_man hR ho, hg, b32_t, gm_cont_i, if_true, if_false]
      · obtain ⟨j, hj, rfl⟩ := okI_t (by omega) hg
        obtain ⟨q, hq, rfl⟩ := okI_t (by omega) hg2
        have hj7 : j < 7 := by omega
        have hq7 : q < 7 := by omega
        have hjq : j ≠ q := fun e => hao (by rw [e])
        have ht := top_neg hk5 hr hj
        have htc := (rR_top hr hj).1
        have hkn := kept_neg hr hq
        have hkc := (rR_kept hr hq).1
        have hrc := rR_reads hr hj
        have hcc := rR_coin hr hj
        have hcq := rR_coin hr hq
        have no : (B 116 (21 + j) = -2 ∨ B 116 (42 + q) = -2 ∨ B 116 (49 + j) = nI q ∨ B 116 (14 + j) < B 116 (42 + q)) → gm_den 120 0 [.ref 0, .int (nI j), .int (nI q), .null, .null] [] 128 gm_RF B lm = some (some (.int (-2)), 128, gm_RF, B, lm) ∧ ∃ im2, gm_den 235 0 [.ref 84, .int (nI j), .int (nI q), .null] [] 128 gm_RF B lm = some (some (.int (-2)), 128, gm_RF, im2, lm) ∧ Off B im2 := by
          intro h
          obtain ⟨jm1, c1, p1, r1, -, -⟩ := M_copies hR ho lm
          have k21 := r1 (21 + j) (by omega)
          have k42 := r1 (42 + q) (by omega)
          have k49 := r1 (49 + j) (by omega)
          have k14 := r1 (14 + j) (by omega)
          by_cases d1 : B 116 (21 + j) = -2
          · refine ⟨?_, jm1, ?_, p1⟩
            · simp (decide := true) only [QX11_reads, Cg_man hR ho, hg, hg2, hao, b32_t, gm_cont_i, if_true, if_false, C_get q B lm hq7, C_get j B lm hj7, gm_cat_i, n1, Cg_sil ho hj7, htc, d1]
            · simp (decide := true) only [QX12_reads, Mg_man hR ho, hg, hg2, hao, b32_t, gm_cont_i, gm_cont_v, if_true, if_false, c1, ixr7 q hq7, ixr7 j hj7, gm_cat_i, n1, k21, ht.1.mpr d1]
          · have d1' : ¬ B 116 (21 + j) < 0 := fun hh => d1 (ht.1.mp hh)
            by_cases d2 : B 116 (42 + q) = -2
            · refine ⟨?_, jm1, ?_, p1⟩
              · simp (decide := true) only [QX11_reads, Cg_man hR ho, hg, hg2, hao, b32_t, gm_cont_i, if_true, if_false, C_get q B lm hq7, C_get j B lm hj7, gm_cat_i, n1, Cg_sil ho hj7, htc, d1, hkc, d2]
              · simp (decide := true) only [QX12_reads, Mg_man hR ho, hg, hg2, hao, b32_t, gm_cont_i, gm_cont_v, if_true, if_false, c1, ixr7 q hq7, ixr7 j hj7, gm_cat_i, n1, k21, d1', k42, hkn.1.mpr d2]
            · have d2' : ¬ B 116 (42 + q) < 0 := fun hh => d2 (hkn.1.mp hh)
              by_cases d3 : B 116 (49 + j) = nI q
              · refine ⟨?_, jm1, ?_, p1⟩
                · simp (decide := true) only [QX11_reads, Cg_man hR ho, hg, hg2, hao, b32_t, gm_cont_i, if_true, if_false, C_get q B lm hq7, C_get j B lm hj7, gm_cat_i, n1, Cg_sil ho hj7, htc, d1, hkc, d2, hrc, d3]
                · simp (decide := true) only [QX12_reads, Mg_man hR ho, hg, hg2, hao, b32_t, gm_cont_i, gm_cont_v, if_true, if_false, c1, ixr7 q hq7, ixr7 j hj7, gm_cat_i, n1, k21, d1', k42, d2', k49, d3]
              · have d4 : B 116 (14 + j) < B 116 (42 + q) := by
                  rcases h with h | h | h | h
                  · exact absurd h d1
                  · exact absurd h d2
                  · exact absurd h d3
                  · exact h
                have d4' : ¬ B 116 (42 + q) ≤ B 116 (14 + j) := Int32.not_le.mpr d4
                refine ⟨?_, jm1, ?_, p1⟩
                · simp (decide := true) only [QX11_reads, Cg_man hR ho, hg, hg2, hao, b32_t, gm_cont_i, if_true, if_false, C_get q B lm hq7, C_get j B lm hj7, gm_cat_i, n1, Cg_sil ho hj7, htc, d1, hkc, d2, hrc, d3, hcc, d4']
                · simp (decide := true) only [QX12_reads, Mg_man hR ho, hg, hg2, hao, b32_t, gm_cont_i, gm_cont_v, if_true, if_false, c1, ixr7 q hq7, ixr7 j hj7, gm_cat_i, n1, k21, d1', k42, d2', k49, d3, k14, d4']
        by_cases hno : (B 116 (21 + j) = -2 ∨ B 116 (42 + q) = -2 ∨ B 116 (49 + j) = nI q ∨ B 116 (14 + j) < B 116 (42 + q))
        · obtain ⟨h1, h2⟩ := no hno
          exact agr_no hI0 (-2) h1 h2
        · have d1 : ¬ B 116 (21 + j) = -2 := fun h => hno (Or.inl h)
          have d2 : ¬ B 116 (42 + q) = -2 := fun h => hno (Or.inr (Or.inl h))
          have d3 : ¬ B 116 (49 + j) = nI q := fun h => hno (Or.inr (Or.inr (Or.inl h)))
          have d4 : B 116 (42 + q) ≤ B 116 (14 + j) := Int32.not_lt.mp (fun h => hno (Or.inr (Or.inr (Or.inr h))))
          have d1' : ¬ B 116 (21 + j) < 0 := fun hh => d1 (ht.1.mp hh)
          have d2' : ¬ B 116 (42 + q) < 0 := fun hh => d2 (hkn.1.mp hh)
          obtain ⟨g, hg99, hgv⟩ : ∃ g, g ≤ 99 ∧ B 116 (42 + q) = nI g := by
            rcases (rR_kept hr hq).2 with h | h
            · exact absurd h d2
            · exact h
          obtain ⟨cm0, row0⟩ := cMod_keep (B := B) (sz := sz) hx
          have hk := C_keep hx hz e2 e3 lm
          let im1 := gm_up (gm_up (gm_up (gm_up (cKp B nx sz) 22 (10 * j + 7) (nI q)) 22 (10 * j + 8) (B 116 (42 + q))) 22 (10 * j + 2) (B 116 (14 + j) - B 116 (42 + q))) 22 (10 * q + 2) (B 116 (14 + q) + B 116 (42 + q))
          have cm1 : cMod B nx sz im1 := cm0.up.up.up.up
          have hR1 := cm1.roll hR hx
          have e116 : im1 116 = B 116 := cm1.1 116 rfl (by decide) (by decide) (by omega)
          obtain ⟨jm1, c1, p1, r1, -, -⟩ := M_copies hR1 (Off.rf im1) lm
          rw [e116] at r1
          let jm := gm_up (gm_up (gm_up (gm_up jm1 117 (49 + j) (nI q)) 117 (56 + j) (B 116 (42 + q))) 117 (14 + j) (B 116 (14 + j) - B 116 (42 + q))) 117 (14 + q) (B 116 (14 + q) + B 116 (42 + q))
          have pj : Off im1 jm := (((p1.up rfl (by decide)).up rfl (by decide)).up rfl (by decide)).up rfl (by decide)
          have cj : ∀ i, i ≠ 10 * j + 7 → i ≠ 10 * j + 8 → i ≠ 10 * j + 2 → i ≠ 10 * q + 2 → im1 22 i = B 22 i := fun i a b c d => by
            show gm_up (gm_up (gm_up (gm_up (cKp B nx sz) 22 (10 * j + 7) (nI q)) 22 (10 * j + 8) (B 116 (42 + q))) 22 (10 * j + 2) (B 116 (14 + j) - B 116 (42 + q))) 22 (10 * q + 2) (B 116 (14 + q) + B 116 (42 + q)) 22 i = _
            rw [gu_nk d, gu_nk c, gu_nk b, gu_nk a]; exact row0 i
          have rj : ∀ i, i < 80 → i ≠ 49 + j → i ≠ 56 + j → i ≠ 14 + j → i ≠ 14 + q → jm 117 i = B 116 i := fun i h a b c d => by
            show gm_up (gm_up (gm_up (gm_up jm1 117 (49 + j) (nI q)) 117 (56 + j) (B 116 (42 + q))) 117 (14 + j) (B 116 (14 + j) - B 116 (42 + q))) 117 (14 + q) (B 116 (14 + q) + B 116 (42 + q)) 117 i = _
            rw [gu_nk d, gu_nk c, gu_nk b, gu_nk a]; exact r1 i h
          have hrel : rRel (im1 22) (jm 117) nm nk ns := by
            refine rRel_mk (fun b hb => ?_) (fun q hq => ?_) ?_ ?_
            · by_cases e : b = j
              · subst e
                obtain ⟨h0, h1, h2, h3, h4, h5, h6, h7, h8, h9⟩ := rRel_man hr hj
                have c7 : im1 22 (10 * b + 7) = nI q := by show gm_up (gm_up (gm_up (gm_up (cKp B nx sz) 22 (10 * b + 7) (nI q)) 22 (10 * b + 8) (B 116 (42 + q))) 22 (10 * b + 2) (B 116 (14 + b) - B 116 (42 + q))) 22 (10 * q + 2) (B 116 (14 + q) + B 116 (42 + q)) 22 _ = _; rw [gu_nk (by omega), gu_nk (by omega), gu_nk (by omega), gu_eq]
                have c8 : im1 22 (10 * b + 8) = B 116 (42 + q) := by show gm_up (gm_up (gm_up (gm_up (cKp B nx sz) 22 (10 * b + 7) (nI q)) 22 (10 * b + 8) (B 116 (42 + q))) 22 (10 * b + 2) (B 116 (14 + b) - B 116 (42 + q))) 22 (10 * q + 2) (B 116 (14 + q) + B 116 (42 + q)) 22 _ = _; rw [gu_nk (by omega), gu_nk (by omega), gu_eq]
                have c2 : im1 22 (10 * b + 2) = B 116 (14 + b) - B 116 (42 + q) := by show gm_up (gm_up (gm_up (gm_up (cKp B nx sz) 22 (10 * b + 7) (nI q)) 22 (10 * b + 8) (B 116 (42 + q))) 22 (10 * b + 2) (B 116 (14 + b) - B 116 (42 + q))) 22 (10 * q + 2) (B 116 (14 + q) + B 116 (42 + q)) 22 _ = _; rw [gu_nk (by omega), gu_eq]
                have r49 : jm 117 (49 + b) = nI q := by show gm_up (gm_up (gm_up (gm_up jm1 117 (49 + b) (nI q)) 117 (56 + b) (B 116 (42 + q))) 117 (14 + b) (B 116 (14 + b) - B 116 (42 + q))) 117 (14 + q) (B 116 (14 + q) + B 116 (42 + q)) 117 _ = _; rw [gu_nk (by omega), gu_nk (by omega), gu_nk (by omega), gu_eq]
                have r56 : jm 117 (56 + b) = B 116 (42 + q) := by show gm_up (gm_up (gm_up (gm_up jm1 117 (49 + b) (nI q)) 117 (56 + b) (B 116 (42 + q))) 117 (14 + b) (B 116 (14 + b) - B 116 (42 + q))) 117 (14 + q) (B 116 (14 + q) + B 116 (42 + q)) 117 _ = _; rw [gu_nk (by omega), gu_nk (by omega), gu_eq]
                have r14 : jm 117 (14 + b) = B 116 (14 + b) - B 116 (42 + q) := by show gm_up (gm_up (gm_up (gm_up jm1 117 (49 + b) (nI q)) 117 (56 + b) (B 116 (42 + q))) 117 (14 + b) (B 116 (14 + b) - B 116 (42 + q))) 117 (14 + q) (B 116 (14 + q) + B 116 (42 + q)) 117 _ = _; rw [gu_nk (by omega), gu_eq]
                refine ⟨?_, ?_, c2.trans r14.symm, ⟨?_, ?_⟩, ?_, ?_, ?_, c7.trans r49.symm, Or.inr ⟨⟨q, hq7, r49⟩, c8.trans r56.symm, g, hg99, r56.trans hgv⟩, ?_⟩
                · rw [cj _ (by omega) (by omega) (by omega) (by omega), rj b (by omega) (by omega) (by omega) (by omega) (by omega)]; exact h0
                · rw [cj _ (by omega) (by omega) (by omega) (by omega), rj (7 + b) (by omega) (by omega) (by omega) (by omega) (by omega)]; exact h1
                · rw [cj _ (by omega) (by omega) (by omega) (by omega), rj (21 + b) (by omega) (by omega) (by omega) (by omega) (by omega)]; exact h3.1
                · rw [rj (21 + b) (by omega) (by omega) (by omega) (by omega) (by omega)]
                  rcases h3.2 with e | ⟨m, e1, e2, e3⟩
                  · exact Or.inl e
                  · exact Or.inr ⟨m, e1, e2, by rw [rj _ (by omega) (by omega) (by omega) (by omega) (by omega)]; exact e3⟩
                · rw [cj _ (by omega) (by omega) (by omega) (by omega), rj (21 + b) (by omega) (by omega) (by omega) (by omega) (by omega), rj (28 + b) (by omega) (by omega) (by omega) (by omega) (by omega)]; exact h4
                · rw [cj _ (by omega) (by omega) (by omega) (by omega), rj (35 + b) (by omega) (by omega) (by omega) (by omega) (by omega)]; exact h5
                · rw [cj _ (by omega) (by omega) (by omega) (by omega), rj (42 + b) (by omega) (by omega) (by omega) (by omega) (by omega)]; exact h6
                · rw [cj _ (by omega) (by omega) (by omega) (by omega), rj (63 + b) (by omega) (by omega) (by omega) (by omega) (by omega)]; exact h9
              · by_cases e' : b = q
                · subst e'
                  obtain ⟨h0, h1, h2, h3, h4, h5, h6, h7, h8, h9⟩ := rRel_man hr hq
                  have c2 : im1 22 (10 * b + 2) = B 116 (14 + b) + B 116 (42 + b) := gu_eq
                  have r14 : jm 117 (14 + b) = B 116 (14 + b) + B 116 (42 + b) := gu_eq
                  refine ⟨?_, ?_, c2.trans r14.symm, ⟨?_, ?_⟩, ?_, ?_, ?_, ?_, ?_, ?_⟩
                  · rw [cj _ (by omega) (by omega) (by omega) (by omega), rj b (by omega) (by omega) (by omega) (by omega) (by omega)]; exact h0
                  · rw [cj _ (by omega) (by omega) (by omega) (by omega), rj (7 + b) (by omega) (by omega) (by omega) (by omega) (by omega)]; exact h1
                  · rw [cj _ (by omega) (by omega) (by omega) (by omega), rj (21 + b) (by omega) (by omega) (by omega) (by omega) (by omega)]; exact h3.1
                  · rw [rj (21 + b) (by omega) (by omega) (by omega) (by omega) (by omega)]
                    rcases h3.2 with e | ⟨m, e1, e2, e3⟩
                    · exact Or.inl e
                    · exact Or.inr ⟨m, e1, e2, by rw [rj _ (by omega) (by omega) (by omega) (by omega) (by omega)]; exact e3⟩
                  · rw [cj _ (by omega) (by omega) (by omega) (by omega), rj (21 + b) (by omega) (by omega) (by omega) (by omega) (by omega), rj (28 + b) (by omega) (by omega) (by omega) (by omega) (by omega)]; exact h4
                  · rw [cj _ (by omega) (by omega) (by omega) (by omega), rj (35 + b) (by omega) (by omega) (by omega) (by omega) (by omega)]; exact h5
                  · rw [cj _ (by omega) (by omega) (by omega) (by omega), rj (42 + b) (by omega) (by omega) (by omega) (by omega) (by omega)]; exact h6
                  · rw [cj _ (by omega) (by omega) (by omega) (by omega), rj (49 + b) (by omega) (by omega) (by omega) (by omega) (by omega)]; exact h7
                  · rw [cj _ (by omega) (by omega) (by omega) (by omega), rj (49 + b) (by omega) (by omega) (by omega) (by omega) (by omega), rj (56 + b) (by omega) (by omega) (by omega) (by omega) (by omega)]; exact h8
                  · rw [cj _ (by omega) (by omega) (by omega) (by omega), rj (63 + b) (by omega) (by omega) (by omega) (by omega) (by omega)]; exact h9
                · exact rMan_eq (fun f hf => cj _ (by omega) (by omega) (by omega) (by omega)) (fun k hk => rj _ (by omega) (by omega) (by omega) (by omega) (by omega)) (fun q hq h1 _ => by rw [rj _ (by omega) (by omega) (by omega) (by omega) (by omega)]; exact h1) (rRel_man hr hb)
            · rw [cj _ (by omega) (by omega) (by omega) (by omega), rj _ (by omega) (by omega) (by omega) (by omega) (by omega)]; exact rR_fell hr hq
            · rw [cj _ (by omega) (by omega) (by omega) (by omega), rj _ (by omega) (by omega) (by omega) (by omega) (by omega)]; exact rR_day hr
            · rw [cj _ (by omega) (by omega) (by omega) (by omega), rj _ (by omega) (by omega) (by omega) (by omega) (by omega)]; exact rR_paid hr
          obtain ⟨im2, q1, q2, q3⟩ := push_mod hI0 hx hz e54 hp cm1 pj hrel (LK.rf lm)
          refine ⟨B 116 (14 + j) - B 116 (42 + q), im1, lm, im2, lm, l, nm, nk, nj, ns, ?_, ?_, q2⟩
          · have ek : ∀ v w x, gm_up (gm_up (gm_up (cKp B nx sz) 22 (10 * j + 7) v) 22 (10 * j + 8) w) 22 (10 * j + 2) x 22 (10 * q + 2) = B 116 (14 + q) := fun v w x => by
              rw [gu_nk (by omega), gu_nk (by omega), gu_nk (by omega), row0]; exact hcq
            simp (decide := true) only [QX11_reads, Cg_man hR ho, hg, hg2, hao, b32_t, gm_cont_i, gm_cont_v, if_true, if_false, C_get q B lm hq7, C_get j B lm hj7, gm_cat_i, n1, Cg_sil ho hj7, htc, d1, hkc, d2, hrc, d3, hcc, d4, hk, C_set j _ _ lm hj7, C_get q _ lm hq7, ek, C_set q _ _ lm hq7]
            rfl
          · have k21 := r1 (21 + j) (by omega)
            have k42 := r1 (42 + q) (by omega)
            have k49 := r1 (49 + j) (by omega)
            have k14 := r1 (14 + j) (by omega)
            have k14b : ∀ v w, gm_up (gm_up jm1 117 (49 + j) v) 117 (56 + j) w 117 (14 + j) = B 116 (14 + j) := fun v w => by rw [gu_nk (by omega), gu_nk (by omega)]; exact k14
            have k14q : ∀ v w x, gm_up (gm_up (gm_up jm1 117 (49 + j) v) 117 (56 + j) w) 117 (14 + j) x 117 (14 + q) = B 116 (14 + q) := fun v w x => by rw [gu_nk (by omega), gu_nk (by omega), gu_nk (by omega)]; exact r1 _ (by omega)
            have e14 : im2 116 (14 + j) = B 116 (14 + j) - B 116 (42 + q) := by
              rw [q3 _ (by omega)]
              show gm_up (gm_up (gm_up (gm_up jm1 117 (49 + j) (nI q)) 117 (56 + j) (B 116 (42 + q))) 117 (14 + j) (B 116 (14 + j) - B 116 (42 + q))) 117 (14 + q) (B 116 (14 + q) + B 116 (42 + q)) 117 _ = _
              rw [gu_nk (by omega), gu_eq]
            simp (decide := true) only [QX12_reads, Mg_man hR1 (Off.rf im1), hg, hg2, hao, b32_t, gm_cont_i, gm_cont_v, if_true, if_false, c1, ixr7 q hq7, ixr7 j hj7, gm_cat_i, gm_cat_r, n1, k21, d1', k42, d2', k49, d3, k14, d4, k14b, k14q]
            rw [show gm_up (gm_up (gm_up (gm_up jm1 117 (49 + j) (nI q)) 117 (56 + j) (B 116 (42 + q))) 117 (14 + j) (B 116 (14 + j) - B 116 (42 + q))) 117 (14 + q) (B 116 (14 + q) + B 116 (42 + q)) = jm from rfl, q1]
            simp (decide := true) only [QX12_reads, gm_cont_v, ixr7 j hj7, if_true, e14]
