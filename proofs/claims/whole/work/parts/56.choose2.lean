/-! questions: choose, chosen, both sides -/
section
variable {B : gm_I} {l nm nk nj ns : Nat}
theorem C_picks (hR : iRoll B l nm nk nj ns) (hr : rRel (B 22) (B 116) nm nk ns) {j : Nat} (s : Int32) {K : Nat} (hK : K = min 3 (gc (chB B (nI j) s) nm)) (lm : gm_L) : ∃ im1 lm1 im2 lm2 b, gm_den 1 0 [.ref 71, .int (nI j), .int (B 22 75), .null] [] 128 gm_RF B lm = some (none, 128, gm_RF, im1, lm1) ∧ gm_den 14 0 [.ref 71, .int s, .null, .null, .null] [] 128 gm_RF im1 lm1 = some (some (.int (nI (kX B nj (cSpk B (nI j)) nm (B 22 75) (pkP B (cSpk B (nI j)) nm s) K s b))), 128, gm_RF, im2, lm2) ∧ Off B im2 ∧ LK lm lm2 ∧ im2 71 14 = nI K ∧ im2 71 15 = nI b ∧ im2 71 4 = nI (gc (cSpk B (nI j)) nm) ∧ b < 4 ^ K ∧ fI (pkF (kX B nj (cSpk B (nI j)) nm (B 22 75) (pkP B (cSpk B (nI j)) nm s) K s)) none (4 ^ K) = some b := by
  obtain ⟨im1, lm1, h1, o1, d1, e1, f1⟩ := C_gatherD hR (Off.rf B) (nI j) lm
  have hK2 : K = min 3 (gc (pkP B (cSpk B (nI j)) nm s) (gc (cSpk B (nI j)) nm)) := by
    rw [gc_gc B (cSpk B (nI j)) nm s nm (Nat.le_refl _)]; exact hK
  obtain ⟨im2, lm2, h2, o2, d2, k2, b2, f2⟩ := C_pickManners hR s lm1 o1 d1 e1 (fun a ha _ => cV_pOk hR hr ha) (pkP B (cSpk B (nI j)) nm s) rfl K hK2
  have h4 : 4 ^ K = (4 ^ K - 1) + 1 := by have := Nat.pow_pos (n := K) (show 0 < 4 by decide); omega
  obtain ⟨b, hb⟩ := pkF_some (kX B nj (cSpk B (nI j)) nm (B 22 75) (pkP B (cSpk B (nI j)) nm s) K s) (4 ^ K - 1)
  rw [← h4] at hb
  rw [hb] at h2
  exact ⟨im1, lm1, im2, lm2, b, h1, h2, o2, ((f1.mo (K := [73, 74, 75, 80, 81]) (by decide)).tr f2).lk (by decide) (by decide), k2, b2 b hb, d2.1, pkF_lt hb, hb⟩
end
theorem A_choose (m s i : Int32) : Agr 127 250 [.ref 0, .int m, .int s, .int i] [.ref 84, .int m, .int s, .int i] := by
  refine agrQ ?_
  intro B lm l nm nk nj ns hI
  obtain ⟨hR, hr, -⟩ := hI
  have hm7 := iR_nm hR
  have hk5 := iR_nk hR
  have n1 : Value.category .null = 1 := rfl
  cases hg : okI nk m with
  | false =>
    refine ⟨-1, ⟨B, lm, ?_, Off.rf B, LK.rf lm⟩, fun im lm1 ho hk => ⟨im, lm1, ?_, ho, hk⟩⟩
    · simp (decide := true) only [QX11_choose, Cg_mot hR (Off.rf B), hg, b32_f, gm_cont_i, if_true, if_false]
    · simp (decide := true) only [QX12_choose, M_isAsked hR ho, hg, Bool.false_and, b32_f, gm_cont_i, if_true, if_false]
  | true =>
    cases hg2 : okI ns s with
    | false =>
      refine ⟨-1, ⟨B, lm, ?_, Off.rf B, LK.rf lm⟩, fun im lm1 ho hk => ⟨im, lm1, ?_, ho, hk⟩⟩
      · simp (decide := true) only [QX11_choose, Cg_mot hR (Off.rf B), Cg_sid hR (Off.rf B), hg, hg2, b32_f, b32_t, gm_cont_i, if_true, if_false]
      · simp (decide := true) only [QX12_choose, M_isAsked hR ho, hg, hg2, Bool.and_false, b32_f, gm_cont_i, if_true, if_false]
    | true =>
      obtain ⟨j, hj, rfl⟩ := okI_t (by omega) hg
      generalize hK : min 3 (gc (chB B (nI j) s) nm) = K
      have hK3 : K ≤ 3 := by omega
      have h64 := p4le hK3
      obtain ⟨im1, lm1, im2, lm2, b, h1, h2, o2, k2, e14, e15, e4, hb, hfb⟩ := C_picks (nj := nj) hR hr (j := j) s hK.symm lm
      have h3 := C_pickedManner hK3 (show b < 64 by omega) e14 e15 i lm2
      refine ⟨if 0 ≤ i ∧ i < nI K then nI (b / 4 ^ (K - 1 - i.toNatClampNeg) % 4) else -1, ⟨im2, lm2, ?_, o2, k2⟩, fun im lmx ho hk => ?_⟩
      · simp (decide := true) only [QX11_choose, Cg_mot hR (Off.rf B), Cg_sid hR (Off.rf B), hg, hg2, b32_t, gm_cont_i, gm_cont_v, if_true, if_false, dayB (Off.rf B), h1, h2, gm_cat_i, h3]
      · by_cases hi : i < 0
        · refine ⟨im, lmx, ?_, ho, hk⟩
          have h0 : ¬ 0 ≤ i := Int32.not_le.mpr hi
          simp (decide := true) only [QX12_choose, M_isAsked hR ho, hg, hg2, Bool.and_self, b32_t, gm_cont_i, if_true, if_false, h0, false_and]
        · have h0 := Int32.not_lt.mp hi
          obtain ⟨jm, q1, p1, a1, -, c1⟩ := M_fillsChosen (nj := nj) hR hr hj s hK.symm ho lmx
          rw [hfb] at c1
          refine ⟨jm, lmx, ?_, p1, hk⟩
          by_cases hiK : nI K ≤ i
          · have h5 : ¬ i < nI K := Int32.not_lt.mpr hiK
            simp (decide := true) only [QX12_choose, M_isAsked hR ho, hg, hg2, Bool.and_self, b32_t, gm_cont_i, gm_cont_v, if_true, if_false, h0, q1, a1, hiK, h5, and_false]
          · have h5 : i < nI K := Int32.not_le.mp hiK
            obtain ⟨q, hq, rfl⟩ := nI_of hi
            have hqK : q < K := by
              apply Classical.byContradiction
              intro hc
              exact hiK (nI_le (by omega) (by omega))
            have hcl : (nI q).toNatClampNeg = q := nI_clamp (by omega)
            have c58 := c1.1
            simp (decide := true) only [QX12_choose, M_isAsked hR ho, hg, hg2, Bool.and_self, b32_t, gm_cont_i, gm_cont_v, if_true, if_false, h0, q1, a1, hiK, h5, and_self, c58, mann hK3 hqK (show b < 64 by omega), hcl]
theorem A_chosen (m s : Int32) (wb : Bool) : Agr 128 251 [.ref 0, .int m, .int s, .int (b32 wb), .null] [.ref 84, .int m, .int s, .int (b32 wb)] := by
  refine agrQ ?_
  intro B lm l nm nk nj ns hI
  obtain ⟨hR, hr, -⟩ := hI
  have hm7 := iR_nm hR
  have hk5 := iR_nk hR
  have n1 : Value.category .null = 1 := rfl
  cases hg : okI nk m with
  | false =>
    refine ⟨-1, ⟨B, lm, ?_, Off.rf B, LK.rf lm⟩, fun im lm1 ho hk => ⟨im, lm1, ?_, ho, hk⟩⟩
    · simp (decide := true) only [QX11_chosen, Cg_mot hR (Off.rf B), hg, b32_f, gm_cont_i, if_true, if_false]
    · simp (decide := true) only [QX12_chosen, M_isAsked hR ho, hg, Bool.false_and, b32_f, gm_cont_i, if_true, if_false]
  | true =>
    cases hg2 : okI ns s with
    | false =>
      refine ⟨-1, ⟨B, lm, ?_, Off.rf B, LK.rf lm⟩, fun im lm1 ho hk => ⟨im, lm1, ?_, ho, hk⟩⟩
      · simp (decide := true) only [QX11_chosen, Cg_mot hR (Off.rf B), Cg_sid hR (Off.rf B), hg, hg2, b32_f, b32_t, gm_cont_i, if_true, if_false]
      · simp (decide := true) only [QX12_chosen, M_isAsked hR ho, hg, hg2, Bool.and_false, b32_f, gm_cont_i, if_true, if_false]
    | true =>
      obtain ⟨j, hj, rfl⟩ := okI_t (by omega) hg
      generalize hK : min 3 (gc (chB B (nI j) s) nm) = K
      have hK3 : K ≤ 3 := by omega
      obtain ⟨im1, lm1, im2, lm2, b, h1, h2, o2, k2, e14, e15, e4, hb, hfb⟩ := C_picks (nj := nj) hR hr (j := j) s hK.symm lm
      have hle := gc_le (cSpk B (nI j)) nm
      have hXb : kX B nj (cSpk B (nI j)) nm (B 22 75) (pkP B (cSpk B (nI j)) nm s) K s b ≤ 1280000000 := by
        have h9 := chF_le s (fun s => gW B (cSpk B (nI j)) nm s (gc (cSpk B (nI j)) nm)) (fun t => vFall B nj (cSpk B (nI j)) nm (fun a => if t.testBit (gc (cSpk B (nI j)) a) then kV B (cSpk B (nI j)) nm (B 22 75) (pkP B (cSpk B (nI j)) nm s) K b (gc (cSpk B (nI j)) a) 1 else kV B (cSpk B (nI j)) nm (B 22 75) (pkP B (cSpk B (nI j)) nm s) K b (gc (cSpk B (nI j)) a) 0)) (10 ^ 7) (2 ^ gc (cSpk B (nI j)) nm) (fun s _ => Nat.le_trans (gW_le hR (cSpk B (nI j)) s (gc (cSpk B (nI j)) nm) (Nat.le_refl _)) (p107 (show gc (cSpk B (nI j)) nm ≤ 7 by omega)))
        have h8 : 10 ^ 7 * 2 ^ gc (cSpk B (nI j)) nm ≤ 10 ^ 7 * 128 := Nat.mul_le_mul_left _ (p27 (show gc (cSpk B (nI j)) nm ≤ 7 by omega))
        unfold kX
        omega
      generalize hX : kX B nj (cSpk B (nI j)) nm (B 22 75) (pkP B (cSpk B (nI j)) nm s) K s b = X at *
      have h5 := C_allChances im2 lm2 (gc (cSpk B (nI j)) nm) e4 (by omega)
      have h10 := p107 (show gc (cSpk B (nI j)) nm ≤ 7 by omega)
      have h6 := C_lessened im2 lm2 (show X < 2 ^ 31 by omega) (show 10 ^ gc (cSpk B (nI j)) nm < 2 ^ 31 by omega) (Nat.pow_pos (by decide)) wb
      refine ⟨nI ((if wb then 10 ^ gc (cSpk B (nI j)) nm else X) / Nat.gcd X (10 ^ gc (cSpk B (nI j)) nm)), ⟨im2, lm2, ?_, o2, k2⟩, fun im lmx ho hk => ?_⟩
      · simp (decide := true) only [QX11_chosen, Cg_mot hR (Off.rf B), Cg_sid hR (Off.rf B), hg, hg2, b32_t, gm_cont_i, gm_cont_v, if_true, if_false, dayB (Off.rf B), h1, h2, gm_cat_i, n1, h5, h6]
      · obtain ⟨jm, q1, p1, a1, r1, c1⟩ := M_fillsChosen (nj := nj) hR hr hj s hK.symm ho lmx
        rw [hfb] at c1
        have c59 := c1.2
        rw [hX] at c59
        have q6 := M_lineOf hR p1 (nI j) lmx (show X < 2 ^ 31 by omega) wb
        have eg : gc (mSpk jm (nI j)) nm = gc (cSpk B (nI j)) nm := gc_ext (fun a ha => by
          unfold mSpk cSpk
          rw [r1 (21 + a) (by omega) (fun h => by have := h.1; omega), (rR_top hr ha).1])
        rw [eg] at q6
        refine ⟨jm, lmx, ?_, p1, hk⟩
        simp (decide := true) only [QX12_chosen, M_isAsked hR ho, hg, hg2, Bool.and_self, b32_t, gm_cont_i, gm_cont_v, if_true, if_false, q1, c59, q6]
