/-! questions: place, man, motion, argues, mark, sum -/
theorem A_place : Agr 112 183 [.ref 0] [.ref 84] := by
  refine agrQ ?_
  intro B lm l nm nk nj ns hI
  have h7 := hI.2.2.2.2.2.2.1
  refine ⟨B 0 2, ⟨B, lm, ?_, Off.rf B, LK.rf lm⟩, fun im lm1 ho hk => ⟨im, lm1, ?_, ho, hk⟩⟩
  · simp only [QX11_place]
  · simp only [QX12_place]
    rw [ho.2 17 rfl, ← h7]
theorem C_speakersOn_loop {B im : gm_I} {l nm nk nj ns : Nat} (hR : iRoll B l nm nk nj ns) (ho : Off B im) (m : Int32) (lm : gm_L) : ∀ (w a : Nat), a + w = nm → gm_den 151 4 [.ref 0, .int m, .int (nI (gM (cSpk B m) a)), .int (nI a)] [] 128 gm_RF im lm = some (some (.int (nI (gM (cSpk B m) nm))), 128, gm_RF, im, lm) := by
  intro w
  have hm7 := iR_nm hR
  induction w with
  | zero =>
    intro a hw
    have : a = nm := by omega
    subst this
    rw [LX11_speakersOn_4]
    simp only [QX11_speakersOn, iR_112 hR ho, nI_le (Nat.le_refl a) (show a < 2 ^ 31 by omega), if_true]
  | succ w ih =>
    intro a hw
    have hlt : ¬ nI nm ≤ nI a := nI_ge (by omega) (by omega)
    have h1 := ih (a + 1) (by omega)
    have hg := C_getN a 3 (by omega) (by decide) im lm
    rw [ho.1 22 rfl, show (nI 3 : Int32) = 3 from rfl] at hg
    rw [LX11_speakersOn_4]
    by_cases hb : B 22 (10 * a + 3) = m
    · simp only [gM, cSpk, hb, decide_true, if_true] at h1
      simp only [QX11_speakersOn, iR_112 hR ho, hlt, if_false, hg, gm_cont_i, hb, not_true_eq_false]
      rw [bs (show a < 8 by omega) (gM_lt _ a), nI_a1]
      exact h1
    · have e : gM (cSpk B m) (a + 1) = gM (cSpk B m) a := by simp [gM, cSpk, hb]
      rw [e] at h1
      simp only [QX11_speakersOn, iR_112 hR ho, hlt, if_false, if_true, hg, gm_cont_i, hb, not_false_eq_true, nI_a1]
      exact h1
theorem C_speakersOn {B im : gm_I} {l nm nk nj ns : Nat} (hR : iRoll B l nm nk nj ns) (ho : Off B im) (m : Int32) (lm : gm_L) : gm_den 151 0 [.ref 0, .int m, .null, .null] [] 128 gm_RF im lm = some (some (.int (nI (gM (cSpk B m) nm))), 128, gm_RF, im, lm) := by
  have h1 := C_speakersOn_loop hR ho m lm nm 0 (by omega)
  have n1 : Value.category .null = 1 := rfl
  simp only [QX11_speakersOn, gm_cat_i, n1]
  exact h1
/-- the same speakers -/
theorem spk_eq {B im : gm_I} {nm nk ns : Nat} (hm : nm ≤ 7) (hr : rRel (B 22) (B 116) nm nk ns) (h117 : ∀ j, j < 80 → im 117 j = B 116 j) (m : Int32) : ∀ a, a < nm → mSpk im m a = cSpk B m a := by
  intro a ha
  unfold mSpk cSpk
  rw [h117 (21 + a) (by omega), (rR_top hr ha).1]
theorem sp_eq {B im : gm_I} {nm nk ns : Nat} (hm : nm ≤ 7) (hr : rRel (B 22) (B 116) nm nk ns) (h117 : ∀ j, j < 80 → im 117 j = B 116 j) (m : Int32) : mSp im nm m = gM (cSpk B m) nm := gM_ext (spk_eq hm hr h117 m)
theorem A_man (a w : Int32) : Agr 113 227 [.ref 0, .int a, .int w] [.ref 84, .int a, .int w] := by
  refine agrQ ?_
  intro B lm l nm nk nj ns hI
  obtain ⟨hR, hr, -⟩ := hI
  have hm7 := iR_nm hR
  have hns := iR_ns hR
  cases hg : okI nm a with
  | false =>
    refine ⟨-1, ⟨B, lm, ?_, Off.rf B, LK.rf lm⟩, fun im lm1 ho hk => ⟨im, lm1, ?_, ho, hk⟩⟩
    · simp (decide := true) only [QX11_man, Cg_man hR (Off.rf B), hg, b32_f, gm_cont_i, if_true, if_false]
    · simp (decide := true) only [QX12_man, Mg_man hR ho, hg, b32_f, gm_cont_i, if_true, if_false]
  | true =>
    obtain ⟨j, hj, rfl⟩ := okI_t (by omega) hg
    have hj7 : j < 7 := by omega
    have e3 : (7 * 3 - 7 : Int32) = 14 := rfl
    have e4 : (7 * 4 - 7 : Int32) = 21 := rfl
    have e6 : (7 * 6 - 7 : Int32) = 35 := rfl
    have e7 : (7 * 7 - 7 : Int32) = 42 := rfl
    have e8 : (7 * 8 - 7 : Int32) = 49 := rfl
    rcases rngS 9 (by decide) w with ⟨k, hk, rfl⟩ | hw
    · have : k = 0 ∨ k = 1 ∨ k = 2 ∨ k = 3 ∨ k = 4 ∨ k = 5 ∨ k = 6 ∨ k = 7 ∨ k = 8 ∨ k = 9 := by omega
      rcases this with rfl | rfl | rfl | rfl | rfl | rfl | rfl | rfl | rfl | rfl
      · rw [show (nI 0 : Int32) = 0 from rfl]
        refine ⟨B 116 j, ⟨B, lm, ?_, Off.rf B, LK.rf lm⟩, fun im lm1 ho hk => ?_⟩
        · simp (decide := true) only [QX11_man, Cg_man hR (Off.rf B), hg, b32_t, gm_cont_i, if_true, if_false, C_get j B lm hj7, (rR_side hr hj).1]
        · obtain ⟨im1, c1, o1, r1, -, -⟩ := M_copies hR ho lm1
          refine ⟨im1, lm1, ?_, o1, hk⟩
          simp (decide := true) only [QX12_man, Mg_man hR ho, hg, b32_t, gm_cont_i, gm_cont_v, if_true, if_false, c1, ixr7 j hj7, e3, e4, e6, e7, e8]
          rw [r1 _ (by omega)]
      · rw [show (nI 1 : Int32) = 1 from rfl]
        have n7 := neg_iff (by omega) (rR_left hr hj).2
        by_cases hs : B 116 (7 + j) = -2
        · refine ⟨0, ⟨B, lm, ?_, Off.rf B, LK.rf lm⟩, fun im lm1 ho hk => ?_⟩
          · simp (decide := true) only [QX11_man, Cg_man hR (Off.rf B), hg, b32_t, gm_cont_i, if_true, if_false, C_isSworn j B lm hj7, (rR_left hr hj).1, hs]
          · obtain ⟨im1, c1, o1, r1, -, -⟩ := M_copies hR ho lm1
            refine ⟨im1, lm1, ?_, o1, hk⟩
            simp (decide := true) only [QX12_man, Mg_man hR ho, hg, b32_t, gm_cont_i, gm_cont_v, if_true, if_false, c1, ixr7 j hj7, r1 (7 + j) (show 7 + j < 80 by omega), n7.1.mpr hs]
        · refine ⟨1, ⟨B, lm, ?_, Off.rf B, LK.rf lm⟩, fun im lm1 ho hk => ?_⟩
          · simp (decide := true) only [QX11_man, Cg_man hR (Off.rf B), hg, b32_t, gm_cont_i, if_true, if_false, C_isSworn j B lm hj7, (rR_left hr hj).1, hs]
          · obtain ⟨im1, c1, o1, r1, -, -⟩ := M_copies hR ho lm1
            refine ⟨im1, lm1, ?_, o1, hk⟩
            simp (decide := true) only [QX12_man, Mg_man hR ho, hg, b32_t, gm_cont_i, gm_cont_v, if_true, if_false, c1, ixr7 j hj7, r1 (7 + j) (show 7 + j < 80 by omega), show ¬ B 116 (7 + j) < 0 from fun hh => hs (n7.1.mp hh)]
      · rw [show (nI 2 : Int32) = 2 from rfl]
        have hpl := (mPl_ok hns (rR_side hr hj).2 (rR_left hr hj).2).1
        refine ⟨mPl (B 116 (7 + j)) (B 116 j) (nI ns), ⟨B, lm, ?_, Off.rf B, LK.rf lm⟩, fun im lm1 ho hk => ?_⟩
        · rw [hpl]
          simp (decide := true) only [QX11_man, Cg_man hR (Off.rf B), hg, b32_t, gm_cont_i, if_true, if_false, C_pleadsFor j _ B lm hj7, iR_110 hR (Off.rf B), (rR_side hr hj).1, (rR_left hr hj).1]
        · obtain ⟨im1, c1, o1, r1, -, -⟩ := M_copies hR ho lm1
          have hp := M_pleadsFor j l im1 lm1 hj7 (iR_18 hR o1) (iR_l hR) (iR_ns0 hR o1)
          rw [r1 (7 + j) (by omega), r1 j (by omega), iR_93 hR o1] at hp
          refine ⟨im1, lm1, ?_, o1, hk⟩
          simp (decide := true) only [QX12_man, Mg_man hR ho, hg, b32_t, gm_cont_i, gm_cont_v, if_true, if_false, c1, hp]
      · rw [show (nI 3 : Int32) = 3 from rfl]
        refine ⟨B 116 (14 + j), ⟨B, lm, ?_, Off.rf B, LK.rf lm⟩, fun im lm1 ho hk => ?_⟩
        · simp (decide := true) only [QX11_man, Cg_man hR (Off.rf B), hg, b32_t, gm_cont_i, if_true, if_false, C_get j B lm hj7, rR_coin hr hj]
        · obtain ⟨im1, c1, o1, r1, -, -⟩ := M_copies hR ho lm1
          refine ⟨im1, lm1, ?_, o1, hk⟩
          simp (decide := true) only [QX12_man, Mg_man hR ho, hg, b32_t, gm_cont_i, gm_cont_v, if_true, if_false, c1, ixr7 j hj7, e3, e4, e6, e7, e8]
          rw [r1 _ (by omega)]
      · rw [show (nI 4 : Int32) = 4 from rfl]
        refine ⟨B 116 (21 + j), ⟨B, lm, ?_, Off.rf B, LK.rf lm⟩, fun im lm1 ho hk => ?_⟩
        · simp (decide := true) only [QX11_man, Cg_man hR (Off.rf B), hg, b32_t, gm_cont_i, if_true, if_false, C_get j B lm hj7, (rR_top hr hj).1]
        · obtain ⟨im1, c1, o1, r1, -, -⟩ := M_copies hR ho lm1
          refine ⟨im1, lm1, ?_, o1, hk⟩
          simp (decide := true) only [QX12_man, Mg_man hR ho, hg, b32_t, gm_cont_i, gm_cont_v, if_true, if_false, c1, ixr7 j hj7, e3, e4, e6, e7, e8]
          rw [r1 _ (by omega)]
      · rw [show (nI 5 : Int32) = 5 from rfl]
        have ht := (rR_top hr hj).2
        have n7 : (0 ≤ B 116 (21 + j) ↔ ¬ B 116 (21 + j) = -2) := by
          have h5 := iR_nk hR
          exact (neg_iff (ns := nk) (by omega) (by rcases ht with h | ⟨m, h1, h2, -⟩; exact Or.inl h; exact Or.inr ⟨m, h1, h2⟩)).2
        rcases rR_man hr hj with ⟨hs, hv⟩ | ⟨hs, hv, -⟩
        · refine ⟨-2, ⟨B, lm, ?_, Off.rf B, LK.rf lm⟩, fun im lm1 ho hk => ?_⟩
          · simp (decide := true) only [QX11_man, Cg_man hR (Off.rf B), hg, b32_t, gm_cont_i, if_true, if_false, C_get j B lm hj7, hv]
          · obtain ⟨im1, c1, o1, r1, -, -⟩ := M_copies hR ho lm1
            refine ⟨im1, lm1, ?_, o1, hk⟩
            simp (decide := true) only [QX12_man, Mg_man hR ho, hg, b32_t, gm_cont_i, gm_cont_v, if_true, if_false, c1, ixr7 j hj7, r1 (21 + j) (show 21 + j < 80 by omega), show ¬ 0 ≤ B 116 (21 + j) from fun hh => n7.mp hh hs]
        · refine ⟨B 116 (28 + j), ⟨B, lm, ?_, Off.rf B, LK.rf lm⟩, fun im lm1 ho hk => ?_⟩
          · simp (decide := true) only [QX11_man, Cg_man hR (Off.rf B), hg, b32_t, gm_cont_i, if_true, if_false, C_get j B lm hj7, hv]
          · obtain ⟨im1, c1, o1, r1, -, -⟩ := M_copies hR ho lm1
            refine ⟨im1, lm1, ?_, o1, hk⟩
            simp (decide := true) only [QX12_man, Mg_man hR ho, hg, b32_t, gm_cont_i, gm_cont_v, if_true, if_false, c1, ixr7 j hj7, r1 (21 + j) (show 21 + j < 80 by omega), r1 (28 + j) (show 28 + j < 80 by omega), n7.mpr hs]
      · rw [show (nI 6 : Int32) = 6 from rfl]
        refine ⟨B 116 (35 + j), ⟨B, lm, ?_, Off.rf B, LK.rf lm⟩, fun im lm1 ho hk => ?_⟩
        · simp (decide := true) only [QX11_man, Cg_man hR (Off.rf B), hg, b32_t, gm_cont_i, if_true, if_false, C_get j B lm hj7, (rR_prs hr hj).1]
        · obtain ⟨im1, c1, o1, r1, -, -⟩ := M_copies hR ho lm1
          refine ⟨im1, lm1, ?_, o1, hk⟩
          simp (decide := true) only [QX12_man, Mg_man hR ho, hg, b32_t, gm_cont_i, gm_cont_v, if_true, if_false, c1, ixr7 j hj7, e3, e4, e6, e7, e8]
          rw [r1 _ (by omega)]
      · rw [show (nI 7 : Int32) = 7 from rfl]
        refine ⟨B 116 (42 + j), ⟨B, lm, ?_, Off.rf B, LK.rf lm⟩, fun im lm1 ho hk => ?_⟩
        · simp (decide := true) only [QX11_man, Cg_man hR (Off.rf B), hg, b32_t, gm_cont_i, if_true, if_false, C_get j B lm hj7, (rR_kept hr hj).1]
        · obtain ⟨im1, c1, o1, r1, -, -⟩ := M_copies hR ho lm1
          refine ⟨im1, lm1, ?_, o1, hk⟩
          simp (decide := true) only [QX12_man, Mg_man hR ho, hg, b32_t, gm_cont_i, gm_cont_v, if_true, if_false, c1, ixr7 j hj7, e3, e4, e6, e7, e8]
          rw [r1 _ (by omega)]
      · rw [show (nI 8 : Int32) = 8 from rfl]
        refine ⟨B 116 (49 + j), ⟨B, lm, ?_, Off.rf B, LK.rf lm⟩, fun im lm1 ho hk => ?_⟩
        · simp (decide := true) only [QX11_man, Cg_man hR (Off.rf B), hg, b32_t, gm_cont_i, if_true, if_false, C_get j B lm hj7, rR_reads hr hj]
        · obtain ⟨im1, c1, o1, r1, -, -⟩ := M_copies hR ho lm1
          refine ⟨im1, lm1, ?_, o1, hk⟩
          simp (decide := true) only [QX12_man, Mg_man hR ho, hg, b32_t, gm_cont_i, gm_cont_v, if_true, if_false, c1, ixr7 j hj7, e3, e4, e6, e7, e8]
          rw [r1 _ (by omega)]
      · rw [show (nI 9 : Int32) = 9 from rfl]
        refine ⟨B 116 (63 + j), ⟨B, lm, ?_, Off.rf B, LK.rf lm⟩, fun im lm1 ho hk => ?_⟩
        · simp (decide := true) only [QX11_man, Cg_man hR (Off.rf B), hg, b32_t, gm_cont_i, if_true, if_false, C_get j B lm hj7, rR_slips hr hj]
        · obtain ⟨im1, c1, o1, r1, -, -⟩ := M_copies hR ho lm1
          refine ⟨im1, lm1, ?_, o1, hk⟩
          simp (decide := true) only [QX12_man, Mg_man hR ho, hg, b32_t, gm_cont_i, gm_cont_v, if_true, if_false, c1, ixr7 j hj7, e3, e4, e6, e7, e8]
          rw [r1 _ (by omega)]
    · have hw : w.toInt < 0 ∨ 9 < w.toInt := hw
      refine ⟨-1, ⟨B, lm, ?_, Off.rf B, LK.rf lm⟩, fun im lm1 ho hk => ?_⟩
      · simp (decide := true) only [QX11_man, Cg_man hR (Off.rf B), hg, b32_t, gm_cont_i, if_true, if_false, hw]
      · obtain ⟨im1, c1, o1, r1, -, -⟩ := M_copies hR ho lm1
        refine ⟨im1, lm1, ?_, o1, hk⟩
        simp (decide := true) only [QX12_man, Mg_man hR ho, hg, b32_t, gm_cont_i, gm_cont_v, if_true, if_false, c1, hw]
theorem ixwo (l m s : Nat) (hl : l < 2) (hm : m < 5) (hs : s < 3) : gm_in (3 * (5 * nI l + nI m) + nI (2 + s) - 2) 30 = true ∧ (3 * (5 * nI l + nI m) + nI (2 + s) - 2).toNatClampNeg = 3 * (5 * l + m) + s := by
  apply ix_nat
  · rw [show (5 : Int32) = nI 5 from rfl, show (3 : Int32) = nI 3 from rfl, show (2 : Int32) = nI 2 from rfl, nI_mul, nI_add, nI_mul, nI_add, nI_sub (by omega)]
    congr 1; omega
  · omega
  · decide
theorem A_motion (a w : Int32) : Agr 114 228 [.ref 0, .int a, .int w] [.ref 84, .int a, .int w] := by
  refine agrQ ?_
  intro B lm l nm nk nj ns hI
  obtain ⟨hR, hr, -⟩ := hI
  have hm7 := iR_nm hR
  have hk5 := iR_nk hR
  have hl2 := iR_l hR
  cases hg : okI nk a with
  | false =>
    refine ⟨-1, ⟨B, lm, ?_, Off.rf B, LK.rf lm⟩, fun im lm1 ho hk => ⟨im, lm1, ?_, ho, hk⟩⟩
    · simp (decide := true) only [QX11_motion, Cg_mot hR (Off.rf B), hg, b32_f, gm_cont_i, if_true, if_false]
    · simp (decide := true) only [QX12_motion, Mg_mot hR ho, hg, b32_f, gm_cont_i, if_true, if_false]
  | true =>
    obtain ⟨j, hj, rfl⟩ := okI_t (by omega) hg
    have hj5 : j < 5 := by omega
    rcases rngS 4 (by decide) w with ⟨k, hk, rfl⟩ | hw
    · have : k = 0 ∨ k = 1 ∨ k = 2 + 0 ∨ k = 2 + 1 ∨ k = 2 + 2 := by omega
      have wo : ∀ s, s < 3 → ∀ w : Int32, w = nI (2 + s) → w - 2 = nI s → (w = 2 ∨ w = 3 ∨ w = 4) → ∃ v : Int32, (∃ im1 lm1, gm_den 114 0 [.ref 0, .int (nI j), .int w] [] 128 gm_RF B lm = some (some (.int v), 128, gm_RF, im1, lm1) ∧ Off B im1 ∧ LK lm lm1) ∧ ∀ (im : gm_I) (lm1 : gm_L), Off B im → LK lm lm1 → ∃ im1 lm2, gm_den 228 0 [.ref 84, .int (nI j), .int w] [] 128 gm_RF im lm1 = some (some (.int v), 128, gm_RF, im1, lm2) ∧ Off B im1 ∧ LK lm lm2 := by
        intro s hs w hw hw2 hw3
        refine ⟨B 13 (3 * j + s), ⟨B, lm, ?_, Off.rf B, LK.rf lm⟩, fun im lm1 ho hk => ?_⟩
        · have hwo := C_worthOf j s B lm hj5 hs
          rcases hw3 with rfl | rfl | rfl <;> simp (decide := true) only [QX11_motion, Cg_mot hR (Off.rf B), hg, b32_t, gm_cont_i, if_true, if_false, hw2, hwo]
        · obtain ⟨im1, c1, o1, r1, -, -⟩ := M_copies hR ho lm1
          refine ⟨im1, lm1, ?_, o1, hk⟩
          have hix := ixwo l j s hl2 hj5 hs
          rw [← hw] at hix
          have h100 : im1 100 (3 * (5 * l + j) + s) = B 13 (3 * j + s) := by rw [o1.1 100 rfl]; exact (iR_wo hR hj hs).1
          rcases hw3 with rfl | rfl | rfl <;> simp (decide := true) only [QX12_motion, Mg_mot hR ho, hg, b32_t, gm_cont_i, gm_cont_v, if_true, if_false, c1, iR_18 hR o1, hix, h100]
      rcases this with rfl | rfl | rfl | rfl | rfl
      · rw [show (nI 0 : Int32) = 0 from rfl]
        refine ⟨B 116 (70 + j), ⟨B, lm, ?_, Off.rf B, LK.rf lm⟩, fun im lm1 ho hk => ?_⟩
        · simp (decide := true) only [QX11_motion, Cg_mot hR (Off.rf B), hg, b32_t, gm_cont_i, if_true, if_false, C_fellTo j B lm hj5, (rR_fell hr hj).1]
        · obtain ⟨im1, c1, o1, r1, -, -⟩ := M_copies hR ho lm1
          refine ⟨im1, lm1, ?_, o1, hk⟩
          simp (decide := true) only [QX12_motion, Mg_mot hR ho, hg, b32_t, gm_cont_i, gm_cont_v, if_true, if_false, c1, ixm j hj5]
          rw [r1 _ (by omega)]
      · rw [show (nI 1 : Int32) = 1 from rfl]
        refine ⟨nI (gM (cSpk B (nI j)) nm), ⟨B, lm, ?_, Off.rf B, LK.rf lm⟩, fun im lm1 ho hk => ?_⟩
        · simp (decide := true) only [QX11_motion, Cg_mot hR (Off.rf B), hg, b32_t, gm_cont_i, if_true, if_false, C_speakersOn hR (Off.rf B)]
        · obtain ⟨im1, c1, o1, r1, -, -⟩ := M_copies hR ho lm1
          refine ⟨im1, lm1, ?_, o1, hk⟩
          simp (decide := true) only [QX12_motion, Mg_mot hR ho, hg, b32_t, gm_cont_i, gm_cont_v, if_true, if_false, c1, M_speakers hR o1, sp_eq hm7 hr r1]
      · exact wo 0 (by decide) (nI (2 + 0)) rfl (by decide) (Or.inl rfl)
      · exact wo 1 (by decide) (nI (2 + 1)) rfl (by decide) (Or.inr (Or.inl rfl))
      · exact wo 2 (by decide) (nI (2 + 2)) rfl (by decide) (Or.inr (Or.inr rfl))
    · have hw : w.toInt < 0 ∨ 4 < w.toInt := hw
      refine ⟨-1, ⟨B, lm, ?_, Off.rf B, LK.rf lm⟩, fun im lm1 ho hk => ?_⟩
      · simp (decide := true) only [QX11_motion, Cg_mot hR (Off.rf B), hg, b32_t, gm_cont_i, if_true, if_false, hw]
      · obtain ⟨im1, c1, o1, r1, -, -⟩ := M_copies hR ho lm1
        refine ⟨im1, lm1, ?_, o1, hk⟩
        simp (decide := true) only [QX12_motion, Mg_mot hR ho, hg, b32_t, gm_cont_i, gm_cont_v, if_true, if_false, c1, hw]
theorem b32_if (b : Bool) {α : Type} (x y : α) : (if b32 b = 0 then x else y) = if b = true then y else x := by cases b <;> rfl
theorem A_argues (a mn : Int32) (sl : Bool) : Agr 115 229 [.ref 0, .int a, .int mn, .int (b32 sl)] [.ref 84, .int a, .int mn, .int (b32 sl)] := by
  refine agrQ ?_
  intro B lm l nm nk nj ns hI
  obtain ⟨hR, hr, -⟩ := hI
  have hm7 := iR_nm hR
  cases hg : okI nm a with
  | false =>
    refine ⟨-1, ⟨B, lm, ?_, Off.rf B, LK.rf lm⟩, fun im lm1 ho hk => ⟨im, lm1, ?_, ho, hk⟩⟩
    · simp (decide := true) only [QX11_argues, Cg_man hR (Off.rf B), hg, b32_f, gm_cont_i, if_true, if_false]
    · simp (decide := true) only [QX12_argues, Mg_man hR ho, hg, b32_f, gm_cont_i, if_true, if_false]
  | true =>
    cases hg2 : okI 4 mn with
    | false =>
      refine ⟨-1, ⟨B, lm, ?_, Off.rf B, LK.rf lm⟩, fun im lm1 ho hk => ⟨im, lm1, ?_, ho, hk⟩⟩
      · simp (decide := true) only [QX11_argues, Cg_man hR (Off.rf B), Cg_mnr, hg, hg2, b32_f, b32_t, gm_cont_i, if_true, if_false]
      · simp (decide := true) only [QX12_argues, Mg_man hR ho, Mg_mnr, hg, hg2, b32_f, b32_t, gm_cont_i, if_true, if_false]
    | true =>
      obtain ⟨j, hj, rfl⟩ := okI_t (by omega) hg
      have hj7 : j < 7 := by omega
      let V : Nat → Int32 := upd (upd (upd (cV B j) 5 mn) 6 (b32 sl)) 10 (-1)
      let im1 := gm_up (gm_up (gm_up (cTake B j) 69 5 mn) 69 6 (b32 sl)) 69 10 (-1)
      have f1 : Fr [69] B im1 := (((cTake_fr B j).up (by simp)).up (by simp)).up (by simp)
      have hv : vEq (im1 69) V := by
        show vEq (gm_up (gm_up (gm_up (cTake B j) 69 5 mn) 69 6 (b32 sl)) 69 10 (-1) 69) _
        rw [gu_upd, gu_upd, gu_upd]
        exact (((cTake_v (Off.rf B) j).up 5 mn).up 6 (b32 sl)).up 10 (-1)
      have o1 : Off B im1 := f1.off (by decide)
      obtain ⟨im2, h2, f2⟩ := C_goodB hR o1 hv lm
      refine ⟨vGd B V, ⟨im2, lm, ?_, o1.tr (f2.off fr19), LK.rf lm⟩, fun im lm1 ho hk => ?_⟩
      · have e : gm_den 115 0 [.ref 0, .int (nI j), .int mn, .int (b32 sl)] [] 128 gm_RF B lm = gm_cont 115 68 [.ref 0, .int (nI j), .int mn, .int (b32 sl)] [] 128 (gm_den 71 0 [.ref 69] [] 128 gm_RF im1 lm) := by
          cases sl <;> simp (decide := true) only [QX11_argues, Cg_man hR (Off.rf B), Cg_mnr, hg, hg2, b32_t, b32_f, gm_cont_i, gm_cont_v, if_true, if_false, C_take j B lm hj7] <;> rfl
        rw [e, h2]
        simp only [QX11_argues, gm_cont_i]
      · obtain ⟨im1, c1, o1, r1, -, -⟩ := M_copies hR ho lm1
        obtain ⟨im2, h3, n3⟩ := M_goodOf j l mn (b32 sl) im1 lm1 hj7 (iR_18 hR o1) (iR_l hR) (mLaws_B o1.law (iR_ml hR))
        rw [mGood_B hR o1] at h3
        have hmv := mV_cV hR o1 hr r1 hj mn (b32 sl)
        have ev : sClamp 0 99 (cLaw B 0 (sV (im1 96 (7 * l + j)) mn (b32 sl) (im1 117 (35 + j)) (im1 117 75) 0 0 (nI j) (if im1 117 (7 + j) < 0 then 0 else 1))) = vGd B V := by
          have q3 := hmv 3 (by decide) (by decide)
          have q7 := hmv 7 (by decide) (by decide)
          have q8 := hmv 8 (by decide) (by decide)
          have q9 := hmv 9 (by decide) (by decide)
          simp only [mV] at q3 q7 q8 q9
          simp (decide := true) only [if_true, if_false] at q3 q7 q8 q9
          rw [q3, q7, q8, q9]
          have v10 : V 10 = -1 := by simp [V, upd]
          unfold vGd
          rw [if_pos v10]
          simp (decide := true) [V, upd, cV]
        rw [ev] at h3
        refine ⟨im2, lm1, ?_, o1.tr n3.off, hk⟩
        cases sl <;> simp (decide := true) only [QX12_argues, Mg_man hR ho, Mg_mnr, hg, hg2, b32_t, b32_f, gm_cont_i, gm_cont_v, if_true, if_false, c1] <;> simp only [b32_t, b32_f] at h3 <;> simp only [QX12_argues, h3, gm_cont_i]
