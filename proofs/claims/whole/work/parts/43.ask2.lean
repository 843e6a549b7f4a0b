/-! questions: mark, sum, fine, say, old -/
theorem top_neg {c r : Nat → Int32} {nm nk ns : Nat} (hk : nk ≤ 5) (hr : rRel c r nm nk ns) {a : Nat} (ha : a < nm) : (r (21 + a) < 0 ↔ r (21 + a) = -2) ∧ (0 ≤ r (21 + a) ↔ ¬ r (21 + a) = -2) := by
  apply neg_iff (ns := nk) (by omega)
  rcases (rR_top hr ha).2 with h | ⟨m, h1, h2, -⟩
  · exact Or.inl h
  · exact Or.inr ⟨m, h1, h2⟩
theorem kept_neg {c r : Nat → Int32} {nm nk ns : Nat} (hr : rRel c r nm nk ns) {a : Nat} (ha : a < nm) : (r (42 + a) < 0 ↔ r (42 + a) = -2) ∧ (0 ≤ r (42 + a) ↔ ¬ r (42 + a) = -2) := by
  apply neg_iff (ns := 100) (by omega)
  rcases (rR_kept hr ha).2 with h | ⟨m, h1, h2⟩
  · exact Or.inl h
  · exact Or.inr ⟨m, by omega, h2⟩
section
variable {B im : gm_I} {l nm nk nj ns : Nat}
theorem C_totalOf (hR : iRoll B l nm nk nj ns) (ho : Off B im) {a : Nat} (ha : a < 7) (sl : Int32) (lm : gm_L) : ∃ im', gm_den 156 0 [.ref 0, .int (nI a), .int sl] [] 128 gm_RF im lm = some (some (.int (nI (vS B nj (upd (cV B a) 6 sl) 255))), 128, gm_RF, im', lm) ∧ Fr [19, 69, 70] im im' ∧ vEq (im' 69) (upd (cV B a) 6 sl) := by
  let im1 := gm_up (cTake im a) 69 6 sl
  have f1 : Fr [69] im im1 := (cTake_fr im a).up (by simp)
  have hv : vEq (im1 69) (upd (cV B a) 6 sl) := by
    show vEq (gm_up (cTake im a) 69 6 sl 69) _
    rw [gu_upd]
    exact (cTake_v ho a).up 6 sl
  have o1 : Off B im1 := ho.tr (f1.off (by decide))
  obtain ⟨im2, h2, f2⟩ := C_goodB hR o1 hv lm
  have hv2 : vEq (im2 69) (upd (cV B a) 6 sl) := by rw [f2 69 (by decide)]; exact hv
  have o2 : Off B im2 := o1.tr (f2.off fr19)
  obtain ⟨im3, h3, f3⟩ := C_totB hR o2 hv2 (vGd B (upd (cV B a) 6 sl)) lm
  refine ⟨im3, ?_, ((f1.mo (by decide)).tr (f2.mo (by decide))).tr (f3.mo (by decide)), by rw [f3 69 (by decide)]; exact hv2⟩
  simp only [QX11_totalOf, C_take a im lm ha, gm_cont_v]
  rw [show gm_up (cTake im a) 69 6 sl = im1 from rfl, h2]
  simp only [QX11_totalOf, gm_cont_i, h3]
  rfl
theorem M_sumV (hR : iRoll B l nm nk nj ns) (ho : Off B im) {r : Nat → Int32} (hr : rRel (B 22) r nm nk ns) (h117 : ∀ j, j < 80 → im 117 j = r j) {a : Nat} (ha : a < nm) (hsp : ¬ r (21 + a) = -2) (sl : Int32) (lm : gm_L) : ∃ im', gm_den 218 0 [.ref 84, .int (nI a), .int sl] [] 128 gm_RF im lm = some (some (.int (nI (vS B nj (upd (cV B a) 6 sl) 255))), 128, gm_RF, im', lm) ∧ mOff im im' := by
  have hok := rOk_eq (iR_nm hR) (rRel_ok (iR_ns hR) hr) h117
  obtain ⟨im', h1, h2⟩ := M_sumNow hR ho hok.2 a sl lm ha
  rw [vT_S _ _ _ (iR_nj hR), vS_eq (mV_cV1 hR ho hr h117 ha hsp sl)] at h1
  exact ⟨im', h1, h2⟩
/-- what he is fined -/
theorem M_fineOf (hR : iRoll B l nm nk nj ns) (ho : Off B im) {r : Nat → Int32} (hr : rRel (B 22) r nm nk ns) (h117 : ∀ j, j < 80 → im 117 j = r j) {a : Nat} (ha : a < nm) (hsp : ¬ r (21 + a) = -2) (h0 : nj ≠ 0) (sl : Int32) (lm : gm_L) : ∃ im', gm_den 224 0 [.ref 84, .int (nI a), .int sl, .null, .null] [] 128 gm_RF im lm = some (some (.int (if vFn B (upd (cV B a) 6 sl) (nI (vS B nj (upd (cV B a) 6 sl) 255) / nI nj) < r (14 + a) then vFn B (upd (cV B a) 6 sl) (nI (vS B nj (upd (cV B a) 6 sl) 255) / nI nj) else r (14 + a))), 128, gm_RF, im', lm) ∧ mOff im im' := by
  have hm7 := iR_nm hR
  have hn8 := iR_nj hR
  have hl2 := iR_l hR
  have ha7 : a < 7 := by omega
  obtain ⟨im1, h1, o1⟩ := M_sumV hR ho hr h117 ha hsp sl lm
  have O1 := ho.tr o1.off
  generalize hq : nI (vS B nj (upd (cV B a) 6 sl) 255) / nI nj = q at *
  let im2 := mLk im1 l a (im1 117 (28 + a)) sl
  have o2 : mOff im1 im2 := mLk_off im1 l a (im1 117 (28 + a)) sl
  let im3 := gm_up (gm_up im2 114 3 0) 114 5 q
  have o3 : mOff im im3 := by
    refine (o1.tr o2).tr ⟨fun p h1 h2 h3 => ?_, fun k hk => ?_⟩
    · show gm_up (gm_up im2 114 3 0) 114 5 q p = _
      rw [gu_row h1, gu_row h1]
    · show gm_up (gm_up im2 114 3 0) 114 5 q 84 k = _
      rw [gu_ne (by decide), gu_ne (by decide)]
  have O3 := ho.tr o3.off
  have e117 : im1 117 = im 117 := o1.1 117 (by decide) (by decide) (by decide)
  have hva : ∀ i, i < 9 → im3 114 i = sV (im1 96 (7 * l + a)) (im1 117 (28 + a)) sl 0 (im1 117 75) q 0 (nI a) (if im1 117 (7 + a) < 0 then 0 else 1) i := by
    intro i hi
    have : i = 0 ∨ i = 1 ∨ i = 2 ∨ i = 3 ∨ i = 4 ∨ i = 5 ∨ i = 6 ∨ i = 7 ∨ i = 8 := by omega
    rcases this with rfl | rfl | rfl | rfl | rfl | rfl | rfl | rfl | rfl <;> simp [im3, im2, mLk, gm_up, sV]
  obtain ⟨im4, h4, o4⟩ := (M_asks l 0 0 99 im3 lm (iR_18 hR O3) hl2).2.2 (mLaws_B O3.law (iR_ml hR)).2.2
  have e117b : im4 117 = im 117 := (o3.tr o4).1 117 (by decide) (by decide) (by decide)
  have hval : mClamp 0 99 (mLaw im3 (3 * l + 2) 0 (im3 114)) = vFn B (upd (cV B a) 6 sl) q := by
    rw [mLaw_B O3.law, mLaw_va hva (iR_ml hR).2.2, clamp_eq (by decide)]
    have hx := iR_lw hR (k := 2) (by decide) (sV (im1 96 (7 * l + a)) (im1 117 (28 + a)) sl 0 (im1 117 75) q 0 (nI a) (if im1 117 (7 + a) < 0 then 0 else 1))
    simp only [mLawX] at hx
    simp (decide := true) only [if_false] at hx
    rw [← hx]
    have h117b : ∀ j, j < 80 → im1 117 j = r j := fun j hj => by rw [e117]; exact h117 j hj
    have hv := mV_cV1 hR O1 hr h117b ha hsp sl
    have q3 := hv 3 (by decide) (by decide)
    have q5 := hv 5 (by decide) (by decide)
    have q8 := hv 8 (by decide) (by decide)
    have q9 := hv 9 (by decide) (by decide)
    simp only [mV] at q3 q5 q8 q9
    simp (decide := true) only [if_true, if_false] at q3 q5 q8 q9
    rw [q3, q5, q8, q9]
    unfold vFn
    simp (decide := true) [upd, cV]
  rw [hval] at h4
  refine ⟨im4, ?_, o3.tr o4⟩
  have hz : ¬ nI nj = 0 := nI_ne0 (by omega) (by omega)
  have n1 : Value.category .null = 1 := rfl
  have hlk := M_looks a l (im1 117 (28 + a)) sl im1 lm ha7 (iR_18 hR O1) hl2
  simp (decide := true) only [QX12_fineOf, h1, gm_cont_i, iR_18 hR O1, i2 l hl2, iR_101 hR O1, hz, if_true, if_false, hq, gm_cat_i, n1, ixr7 a ha7, hlk, gm_cont_v, i114]
  rw [show gm_up (gm_up (mLk im1 l a (im1 117 (28 + a)) sl) 114 3 0) 114 5 q = im3 from rfl, h4]
  have hr14 : im4 117 (14 + a) = r (14 + a) := by rw [e117b]; exact h117 _ (by omega)
  by_cases hc : vFn B (upd (cV B a) 6 sl) q < r (14 + a)
  · have hc2 := Int32.not_le.mpr hc
    simp (decide := true) only [QX12_fineOf, gm_cont_i, gm_cat_i, n1, ixr7 a ha7, if_true, if_false, hr14, hc, hc2]
  · have hc2 := Int32.not_lt.mp hc
    simp (decide := true) only [QX12_fineOf, gm_cont_i, gm_cat_i, n1, ixr7 a ha7, if_true, if_false, hr14, hc, hc2]
end
theorem okI_f {n : Nat} {a : Int32} (h : okI n a = false) : a < 0 ∨ (¬ a < 0 ∧ nI n ≤ a) := by
  by_cases h0 : a < 0
  · exact Or.inl h0
  · refine Or.inr ⟨h0, ?_⟩
    simp only [okI, decide_eq_false_iff_not, not_and] at h
    exact Int32.not_lt.mp (h (Int32.not_lt.mp h0))
theorem okI_tt {n : Nat} {a : Int32} (h : okI n a = true) : ¬ a < 0 ∧ ¬ nI n ≤ a ∧ a < nI n := by
  simp only [okI, decide_eq_true_eq] at h
  exact ⟨Int32.not_lt.mpr h.1, Int32.not_le.mpr h.2, h.2⟩
theorem A_mark (ju a : Int32) (sl : Bool) : Agr 116 230 [.ref 0, .int ju, .int a, .int (b32 sl)] [.ref 84, .int ju, .int a, .int (b32 sl)] := by
  refine agrQ ?_
  intro B lm l nm nk nj ns hI
  obtain ⟨hR, hr, -⟩ := hI
  have hm7 := iR_nm hR
  have hn8 := iR_nj hR
  have hl2 := iR_l hR
  cases hg2 : okI nj ju with
  | false =>
    refine ⟨-1, ⟨B, lm, ?_, Off.rf B, LK.rf lm⟩, fun im lm1 ho hk => ⟨im, lm1, ?_, ho, hk⟩⟩
    · cases hg : okI nm a with
      | false => simp (decide := true) only [QX11_mark, Cg_man hR (Off.rf B), hg, b32_f, gm_cont_i, if_true, if_false]
      | true =>
        rcases okI_f hg2 with h | ⟨h, h2⟩
        · simp (decide := true) only [QX11_mark, Cg_man hR (Off.rf B), hg, b32_t, gm_cont_i, if_true, if_false, h]
        · simp (decide := true) only [QX11_mark, Cg_man hR (Off.rf B), hg, b32_t, gm_cont_i, if_true, if_false, h, iR_114 hR (Off.rf B), Int32.not_lt.mpr h2]
    · simp (decide := true) only [QX12_mark, iR_18 hR ho, i2 l hl2, Mg_jur hR ho, hg2, b32_f, gm_cont_i, if_true, if_false]
  | true =>
    cases hg : okI nm a with
    | false =>
      refine ⟨-1, ⟨B, lm, ?_, Off.rf B, LK.rf lm⟩, fun im lm1 ho hk => ⟨im, lm1, ?_, ho, hk⟩⟩
      · simp (decide := true) only [QX11_mark, Cg_man hR (Off.rf B), hg, b32_f, gm_cont_i, if_true, if_false]
      · simp (decide := true) only [QX12_mark, iR_18 hR ho, i2 l hl2, Mg_jur hR ho, Mg_man hR ho, hg, hg2, b32_f, b32_t, gm_cont_i, if_true, if_false]
    | true =>
      obtain ⟨j, hj, rfl⟩ := okI_t (by omega) hg
      have hj7 : j < 7 := by omega
      have hju := okI_tt hg2
      obtain ⟨q, hq, rfl⟩ := okI_t (by omega) hg2
      have ht := top_neg (iR_nk hR) hr hj
      have htc := (rR_top hr hj).1
      by_cases hsp : B 116 (21 + j) = -2
      · refine ⟨-2, ⟨B, lm, ?_, Off.rf B, LK.rf lm⟩, fun im lm1 ho hk => ?_⟩
        · simp (decide := true) only [QX11_mark, Cg_man hR (Off.rf B), hg, b32_t, gm_cont_i, if_true, if_false, hju, iR_114 hR (Off.rf B), Cg_sil (Off.rf B) hj7, htc, hsp]
        · obtain ⟨im1, c1, o1, r1, -, -⟩ := M_copies hR ho lm1
          refine ⟨im1, lm1, ?_, o1, hk⟩
          simp (decide := true) only [QX12_mark, iR_18 hR ho, i2 l hl2, Mg_jur hR ho, Mg_man hR ho, hg, hg2, b32_t, gm_cont_i, gm_cont_v, if_true, if_false, c1, ixr7 j hj7, r1 (21 + j) (show 21 + j < 80 by omega), ht.1.mpr hsp, show ¬ 0 ≤ B 116 (21 + j) from fun hh => ht.2.mp hh hsp]
      · let V : Nat → Int32 := upd (cV B j) 6 (b32 sl)
        let im1 := gm_up (cTake B j) 69 6 (b32 sl)
        have f1 : Fr [69] B im1 := (cTake_fr B j).up (by simp)
        have hv : vEq (im1 69) V := by
          show vEq (gm_up (cTake B j) 69 6 (b32 sl) 69) _
          rw [gu_upd]
          exact (cTake_v (Off.rf B) j).up 6 (b32 sl)
        have o1 : Off B im1 := f1.off (by decide)
        obtain ⟨im2, h2, f2⟩ := C_goodB hR o1 hv lm
        have hv2 : vEq (im2 69) V := by rw [f2 69 (by decide)]; exact hv
        have o2 : Off B im2 := o1.tr (f2.off fr19)
        obtain ⟨im3, h3, f3⟩ := C_markB hR o2 hv2 hq (vGd B V) lm
        refine ⟨vMk B V q (vGd B V), ⟨im3, lm, ?_, o2.tr (f3.off fr19), LK.rf lm⟩, fun im lm1 ho hk => ?_⟩
        · have e : gm_den 116 0 [.ref 0, .int (nI q), .int (nI j), .int (b32 sl)] [] 128 gm_RF B lm = gm_cont 116 76 [.ref 0, .int (nI q), .int (nI j), .int (b32 sl)] [.int (nI q), .ref 69] 128 (gm_den 71 0 [.ref 69] [] 128 gm_RF im1 lm) := by
            cases sl <;> simp (decide := true) only [QX11_mark, Cg_man hR (Off.rf B), hg, b32_t, b32_f, gm_cont_i, gm_cont_v, if_true, if_false, hju, iR_114 hR (Off.rf B), Cg_sil (Off.rf B) hj7, htc, hsp, C_take j B lm hj7] <;> rfl
          rw [e, h2]
          simp only [QX11_mark, gm_cont_i, h3]
        · obtain ⟨jm1, c1, p1, r1, -, -⟩ := M_copies hR ho lm1
          have hok := rOk_eq hm7 (rRel_ok (iR_ns hR) hr) r1
          obtain ⟨jm2, h4, n4⟩ := M_goodNowB hR p1 hok.2 j (b32 sl) lm1 hj
          rw [vGd_eq (mV_cV1 hR p1 hr r1 hj hsp (b32 sl))] at h4
          have p2 := p1.tr n4.off
          have r2 : ∀ k, k < 80 → jm2 117 k = B 116 k := fun k hk => by rw [n4.1 117 (by decide) (by decide) (by decide)]; exact r1 k hk
          obtain ⟨jm3, h5, n5⟩ := M_markBy q j l (jm1 117 (28 + j)) (b32 sl) (vGd B (upd (cV B j) 6 (b32 sl))) jm2 lm1 (by omega) hj7 (iR_18 hR p2) hl2 (iR_ns0 hR p2) (mLaws_B p2.law (iR_ml hR))
          have em : jm1 117 (28 + j) = jm2 117 (28 + j) := by rw [n4.1 117 (by decide) (by decide) (by decide)]
          rw [mMark_B hR p2 hq, em, vMk_eq (mV_cV1 hR p2 hr r2 hj hsp (b32 sl)), ← em] at h5
          refine ⟨jm3, lm1, ?_, p2.tr n5.off, hk⟩
          have hneg : ¬ jm1 117 (21 + j) < 0 := by rw [r1 _ (by omega)]; exact fun hh => hsp (ht.1.mp hh)
          have hneg2 : 0 ≤ jm1 117 (21 + j) := Int32.not_lt.mp hneg
          show _ = some (some (Value.int (vMk B (upd (cV B j) 6 (b32 sl)) q (vGd B (upd (cV B j) 6 (b32 sl))))), 128, gm_RF, jm3, lm1)
          cases sl
          · simp only [b32_f] at h4 h5 ⊢
            simp (decide := true) only [QX12_mark, iR_18 hR ho, i2 l hl2, Mg_jur hR ho, Mg_man hR ho, hg, hg2, b32_t, gm_cont_i, gm_cont_v, if_true, if_false, c1, ixr7 j hj7, hneg, hneg2, h4, h5]
          · simp only [b32_t] at h4 h5 ⊢
            simp (decide := true) only [QX12_mark, iR_18 hR ho, i2 l hl2, Mg_jur hR ho, Mg_man hR ho, hg, hg2, b32_t, gm_cont_i, gm_cont_v, if_true, if_false, c1, ixr7 j hj7, hneg, hneg2, h4, h5]
theorem A_sum (a : Int32) (sl : Bool) : Agr 117 231 [.ref 0, .int a, .int (b32 sl)] [.ref 84, .int a, .int (b32 sl)] := by
  refine agrQ ?_
  intro B lm l nm nk nj ns hI
  obtain ⟨hR, hr, -⟩ := hI
  have hm7 := iR_nm hR
  cases hg : okI nm a with
  | false =>
    refine ⟨-1, ⟨B, lm, ?_, Off.rf B, LK.rf lm⟩, fun im lm1 ho hk => ⟨im, lm1, ?_, ho, hk⟩⟩
    · simp (decide := true) only [QX11_sum, Cg_man hR (Off.rf B), hg, b32_f, gm_cont_i, if_true, if_false]
    · simp (decide := true) only [QX12_sum, Mg_man hR ho, hg, b32_f, gm_cont_i, if_true, if_false]
  | true =>
    obtain ⟨j, hj, rfl⟩ := okI_t (by omega) hg
    have hj7 : j < 7 := by omega
    have ht := top_neg (iR_nk hR) hr hj
    have htc := (rR_top hr hj).1
    by_cases hsp : B 116 (21 + j) = -2
    · refine ⟨-2, ⟨B, lm, ?_, Off.rf B, LK.rf lm⟩, fun im lm1 ho hk => ?_⟩
      · simp (decide := true) only [QX11_sum, Cg_man hR (Off.rf B), hg, b32_t, gm_cont_i, if_true, if_false, Cg_sil (Off.rf B) hj7, htc, hsp]
      · obtain ⟨im1, c1, o1, r1, -, -⟩ := M_copies hR ho lm1
        refine ⟨im1, lm1, ?_, o1, hk⟩
        simp (decide := true) only [QX12_sum, Mg_man hR ho, hg, b32_t, gm_cont_i, gm_cont_v, if_true, if_false, c1, ixr7 j hj7, r1 (21 + j) (show 21 + j < 80 by omega), ht.1.mpr hsp, show ¬ 0 ≤ B 116 (21 + j) from fun hh => ht.2.mp hh hsp]
    · obtain ⟨im1, h1, f1, -⟩ := C_totalOf hR (Off.rf B) hj7 (b32 sl) lm
      refine ⟨nI (vS B nj (upd (cV B j) 6 (b32 sl)) 255), ⟨im1, lm, ?_, f1.off (by decide), LK.rf lm⟩, fun im lm1 ho hk => ?_⟩
      · cases sl <;> simp only [b32_t, b32_f] at h1 ⊢ <;> simp (decide := true) only [QX11_sum, Cg_man hR (Off.rf B), hg, b32_t, gm_cont_i, if_true, if_false, Cg_sil (Off.rf B) hj7, htc, hsp, h1]
      · obtain ⟨im1, c1, o1, r1, -, -⟩ := M_copies hR ho lm1
        obtain ⟨im2, h2, n2⟩ := M_sumV hR o1 hr r1 hj hsp (b32 sl) lm1
        refine ⟨im2, lm1, ?_, o1.tr n2.off, hk⟩
        cases sl <;> simp only [b32_t, b32_f] at h2 ⊢ <;> simp (decide := true) only [QX12_sum, Mg_man hR ho, hg, b32_t, gm_cont_i, gm_cont_v, if_true, if_false, c1, ixr7 j hj7, r1 (21 + j) (show 21 + j < 80 by omega), ht.2.mpr hsp, show ¬ B 116 (21 + j) < 0 from fun hh => hsp (ht.1.mp hh), h2]
theorem min_eq (x y : Int32) : (if y < x then y else x) = if x < y then x else y := by
  by_cases h : y < x
  · rw [if_pos h, if_neg (Int32.not_lt.mpr (Int32.le_of_lt h))]
  · by_cases h2 : x < y
    · rw [if_neg h, if_pos h2]
    · rw [if_neg h, if_neg h2]
      exact Int32.le_antisymm (Int32.not_lt.mp h) (Int32.not_lt.mp h2)
theorem A_fine (a : Int32) (sl : Bool) : Agr 132 258 [.ref 0, .int a, .int (b32 sl), .null] [.ref 84, .int a, .int (b32 sl)] := by
  refine agrQ ?_
  intro B lm l nm nk nj ns hI
  obtain ⟨hR, hr, -⟩ := hI
  have hm7 := iR_nm hR
  have hn8 := iR_nj hR
  have hl2 := iR_l hR
  have n1 : Value.category .null = 1 := rfl
  cases hg : okI nm a with
  | false =>
    refine ⟨-1, ⟨B, lm, ?_, Off.rf B, LK.rf lm⟩, fun im lm1 ho hk => ⟨im, lm1, ?_, ho, hk⟩⟩
    · simp (decide := true) only [QX11_fine, Cg_man hR (Off.rf B), hg, b32_f, gm_cont_i, if_true, if_false]
    · simp (decide := true) only [QX12_fine, Mg_man hR ho, hg, b32_f, gm_cont_i, if_true, if_false]
  | true =>
    obtain ⟨j, hj, rfl⟩ := okI_t (by omega) hg
    have hj7 : j < 7 := by omega
    have ht := top_neg (iR_nk hR) hr hj
    have htc := (rR_top hr hj).1
    by_cases hsp : B 116 (21 + j) = -2
    · refine ⟨-2, ⟨B, lm, ?_, Off.rf B, LK.rf lm⟩, fun im lm1 ho hk => ?_⟩
      · simp (decide := true) only [QX11_fine, Cg_man hR (Off.rf B), hg, b32_t, gm_cont_i, if_true, if_false, Cg_sil (Off.rf B) hj7, htc, hsp]
      · obtain ⟨im1, c1, o1, r1, -, -⟩ := M_copies hR ho lm1
        refine ⟨im1, lm1, ?_, o1, hk⟩
        simp (decide := true) only [QX12_fine, Mg_man hR ho, hg, b32_t, gm_cont_i, gm_cont_v, if_true, if_false, c1, ixr7 j hj7, r1 (21 + j) (show 21 + j < 80 by omega), ht.1.mpr hsp]
    · have hnn : ¬ B 116 (21 + j) < 0 := fun hh => hsp (ht.1.mp hh)
      by_cases h0 : nj = 0
      · have hz : nI nj = 0 := by rw [h0]; rfl
        refine ⟨-2, ⟨B, lm, ?_, Off.rf B, LK.rf lm⟩, fun im lm1 ho hk => ?_⟩
        · simp (decide := true) only [QX11_fine, Cg_man hR (Off.rf B), hg, b32_t, gm_cont_i, if_true, if_false, Cg_sil (Off.rf B) hj7, htc, hsp, iR_114 hR (Off.rf B), hz]
        · obtain ⟨im1, c1, o1, r1, -, -⟩ := M_copies hR ho lm1
          refine ⟨im1, lm1, ?_, o1, hk⟩
          simp (decide := true) only [QX12_fine, Mg_man hR ho, hg, b32_t, gm_cont_i, gm_cont_v, if_true, if_false, c1, ixr7 j hj7, r1 (21 + j) (show 21 + j < 80 by omega), hnn, iR_18 hR o1, i2 l hl2, iR_101 hR o1, hz]
      · have hz : ¬ nI nj = 0 := nI_ne0 (by omega) (by omega)
        obtain ⟨im1, h1, f1, hv1⟩ := C_totalOf hR (Off.rf B) hj7 (b32 sl) lm
        have o1 : Off B im1 := f1.off (by decide)
        obtain ⟨im2, h2, f2⟩ := C_fineB hR o1 hv1 h0 (nI (vS B nj (upd (cV B j) 6 (b32 sl)) 255)) lm
        have o2 : Off B im2 := o1.tr (f2.off fr19)
        have hg3 := C_getN j 2 hj7 (by decide) im2 lm
        rw [o2.1 22 rfl, show (nI 2 : Int32) = 2 from rfl, rR_coin hr hj] at hg3
        refine ⟨if vFn B (upd (cV B j) 6 (b32 sl)) (nI (vS B nj (upd (cV B j) 6 (b32 sl)) 255) / nI nj) < B 116 (14 + j) then vFn B (upd (cV B j) 6 (b32 sl)) (nI (vS B nj (upd (cV B j) 6 (b32 sl)) 255) / nI nj) else B 116 (14 + j), ⟨im2, lm, ?_, o2, LK.rf lm⟩, fun im lm1 ho hk => ?_⟩
        rotate_left
        · obtain ⟨im3, c1, o3, r1, -, -⟩ := M_copies hR ho lm1
          obtain ⟨im4, h4, n4⟩ := M_fineOf hR o3 hr r1 hj hsp h0 (b32 sl) lm1
          refine ⟨im4, lm1, ?_, o3.tr n4.off, hk⟩
          cases sl <;> simp only [b32_t, b32_f] at h4 ⊢ <;> simp (decide := true) only [QX12_fine, Mg_man hR ho, hg, b32_t, gm_cont_i, gm_cont_v, if_true, if_false, c1, ixr7 j hj7, r1 (21 + j) (show 21 + j < 80 by omega), hnn, iR_18 hR o3, i2 l hl2, iR_101 hR o3, hz, h4]
        · rw [← min_eq]
          cases sl <;> simp only [b32_t, b32_f] at h1 h2 ⊢ <;> simp (decide := true) only [QX11_fine, Cg_man hR (Off.rf B), hg, b32_t, gm_cont_i, if_true, if_false, Cg_sil (Off.rf B) hj7, htc, hsp, iR_114 hR (Off.rf B), hz, h1, gm_cat_i, n1, h2, hg3] <;> rfl
