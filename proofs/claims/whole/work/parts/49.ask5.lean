/-! questions: now, likely, ahead -/
section
variable {B im : gm_I} {l nm nk nj ns : Nat}
theorem cV_pOk (hR : iRoll B l nm nk nj ns) (hr : rRel (B 22) (B 116) nm nk ns) {a : Nat} (ha : a < nm) : pOk (cV B a) := by
  have hns := iR_ns hR
  have e11 : B 11 0 = nI ns := iR_110 hR (Off.rf B)
  obtain ⟨h1, p, hp, h2⟩ := mPl_ok hns (rR_side hr ha).2 (rR_left hr ha).2
  have e : cV B a 4 = nI p := by
    have : cV B a 4 = sPl (B 22 (10 * a + 1)) (B 22 (10 * a + 0)) (B 11 0) := by simp [cV]
    rw [this, (rR_left hr ha).1, (rR_side hr ha).1, e11, ← h1, h2]
  unfold pOk pN
  rw [e, nI_clamp (by omega)]
  exact ⟨rfl, by omega⟩
theorem dV_cV (B : gm_I) (b : Nat) : vEq (dV B (B 22 75) b) (cV B b) := by
  intro i _ _
  unfold dV upd
  by_cases h : i = 8
  · subst h; simp [cV]
  · simp [h]
theorem pOk_eq {v w : Nat → Int32} (h : v 4 = w 4) (k : pOk w) : pOk v := by unfold pOk pN at *; rw [h]; exact k
/-- gathered on the day as it is -/
theorem C_gatherD (hR : iRoll B l nm nk nj ns) (ho : Off B im) (m : Int32) (lm : gm_L) : ∃ im' lm', gm_den 1 0 [.ref 71, .int m, .int (B 22 75), .null] [] 128 gm_RF im lm = some (none, 128, gm_RF, im', lm') ∧ Off B im' ∧ dW (cSpk B m) nm (B 22 75) im' ∧ dE (cSpk B m) nm (fun b => ent B nj (dV B (B 22 75) b)) (lm' 73) ∧ Fr [73] lm lm' := by
  obtain ⟨im', lm', h1, h2, h3, h4, h5, -⟩ := C_gather hR ho m (B 22 75) lm
  exact ⟨im', lm', h1, h2, h3, h4, h5⟩
theorem bag0 (hnj : nj ≤ 8) {f : Nat → Bool} {nm : Nat} {v : Nat → Nat → Int32} (hp : ∀ a, a < nm → f a = true → pOk (v a)) {r : Nat → Int64} (he : dE f nm (fun b => ent B nj (v b)) r) : sL r (gc f nm) = bag (vSu B nj f nm v 255) (vNu f nm v) := by
  rw [← ent_gL hnj hp, ← sL_wh]
  exact sL_ext (fun i hi => he i hi)
theorem dayB (ho : Off B im) (lm : gm_L) : gm_den 87 0 [.ref 21] [] 128 gm_RF im lm = some (some (.int (B 22 75)), 128, gm_RF, im, lm) := by rw [C_day, ho.1 22 rfl]
theorem vPos (nj : Nat) (f : Nat → Bool) (nm : Nat) (v : Nat → Nat → Int32) (J : Nat) : pos (vSu B nj f nm v J) (vNu f nm v) := by
  intro s _ h
  unfold vSu vNu at *
  have : ∀ n, 0 < gN f (fun a => pN (v a)) (fun a => vS B nj (v a) J) s n → 0 < gN f (fun a => pN (v a)) (fun _ => 1) s n := by
    intro n
    induction n with
    | zero => intro h; simp [gN] at h
    | succ n ih =>
      simp only [gN]
      split
      · intro _; omega
      · exact ih
  exact this nm h
theorem slip0 (t : Nat) (ht : t = 0) (a : Nat) : b32 (Nat.testBit t a) = 0 := by subst ht; simp [b32]
theorem M_isAsked (hR : iRoll B l nm nk nj ns) (ho : Off B im) (m s : Int32) (lm : gm_L) : gm_den 245 0 [.ref 84, .int m, .int s] [] 128 gm_RF im lm = some (some (.int (b32 (okI nk m && okI ns s))), 128, gm_RF, im, lm) := by
  cases h1 : okI nk m with
  | false => simp (decide := true) only [QX12_isAsked, Mg_mot hR ho, h1, b32_f, gm_cont_i, if_true, if_false, Bool.false_and, nb0]
  | true =>
    cases h2 : okI ns s with
    | false => simp (decide := true) only [QX12_isAsked, Mg_mot hR ho, Mg_sid hR ho, h1, h2, b32_f, b32_t, gm_cont_i, if_true, if_false, Bool.and_false, nb0]
    | true => simp (decide := true) only [QX12_isAsked, Mg_mot hR ho, Mg_sid hR ho, h1, h2, b32_t, gm_cont_i, if_true, if_false, Bool.and_self, nb1]
/-- the reference's motion falls as the class's -/
theorem fall0 (hR : iRoll B l nm nk nj ns) (ho : Off B im) (hr : rRel (B 22) (B 116) nm nk ns) (h117 : ∀ j, j < 80 → im 117 j = B 116 j) {m : Nat} (hm : m < nk) : mFall B im l nm nj (nI m) 0 = vFall B nj (cSpk B (nI m)) nm (dV B (B 22 75)) := by
  have hm7 := iR_nm hR
  have hk5 := iR_nk hR
  apply mFall_v 0 (spk_eq hm7 hr h117 (nI m))
  intro a ha hf
  have hsp : ¬ B 116 (21 + a) = -2 := by
    intro h
    simp only [cSpk, decide_eq_true_eq] at hf
    rw [(rR_top hr ha).1, h] at hf
    exact eO_256 (show m < 256 by omega) hf.symm
  refine (mV_cV1 hR ho hr h117 ha hsp _).tr ?_
  refine vEq.tr ?_ (dV_cV B a).sy
  intro i _ _
  unfold upd
  by_cases h : i = 6
  · subst h; simp [b32, cV]
  · simp [h]
theorem spk_ne (hk : nk ≤ 5) (hr : rRel (B 22) (B 116) nm nk ns) {m a : Nat} (hm : m < nk) (ha : a < nm) (hf : cSpk B (nI m) a = true) : ¬ B 116 (21 + a) = -2 := by
  intro h
  simp only [cSpk, decide_eq_true_eq] at hf
  rw [(rR_top hr ha).1, h] at hf
  exact eO_256 (show m < 256 by omega) hf.symm
end
theorem A_now (m s : Int32) : Agr 124 240 [.ref 0, .int m, .int s, .null, .null] [.ref 84, .int m, .int s] := by
  refine agrQ ?_
  intro B lm l nm nk nj ns hI
  obtain ⟨hR, hr, -⟩ := hI
  have hm7 := iR_nm hR
  have hn8 := iR_nj hR
  have hk5 := iR_nk hR
  have hns := iR_ns hR
  have n1 : Value.category .null = 1 := rfl
  cases hg : okI nk m with
  | false =>
    refine ⟨-1, ⟨B, lm, ?_, Off.rf B, LK.rf lm⟩, fun im lm1 ho hk => ⟨im, lm1, ?_, ho, hk⟩⟩
    · simp (decide := true) only [QX11_now, Cg_mot hR (Off.rf B), hg, b32_f, gm_cont_i, if_true, if_false]
    · simp (decide := true) only [QX12_now, Mg_mot hR ho, hg, b32_f, gm_cont_i, if_true, if_false]
  | true =>
    have key : ∀ j, j < nk → m = nI j → (∃ im1 lm1, gm_den 1 0 [.ref 71, .int m, .int (B 22 75), .null] [] 128 gm_RF B lm = some (none, 128, gm_RF, im1, lm1) ∧ Off B im1 ∧ LK lm lm1 ∧ gm_den 3 0 [.ref 71, .null, .null, .null] [] 128 gm_RF im1 lm1 = some (some (.long (bag (vSu B nj (cSpk B m) nm (dV B (B 22 75)) 255) (vNu (cSpk B m) nm (dV B (B 22 75))))), 128, gm_RF, im1, lm1)) := by
      intro j hj hm
      obtain ⟨im1, lm1, h1, h2, h3, h4, h5⟩ := C_gatherD hR (Off.rf B) m lm
      refine ⟨im1, lm1, h1, h2, h5.lk (by decide) (by decide), ?_⟩
      rw [C_asItIs im1 lm1 _ h3.1 (by have := gc_le (cSpk B m) nm; omega), bag0 hn8 (fun a ha _ => pOk_eq (dV_cV B a 4 (by decide) (by decide)) (cV_pOk hR hr ha)) h4]
    by_cases hs1 : s = -1
    · subst hs1
      obtain ⟨j, hj, rfl⟩ := okI_t (by omega) hg
      obtain ⟨im1, lm1, h1, h2, h3, h4⟩ := key j hj rfl
      have hw := C_winner (vLanes hn8 (cSpk B (nI j)) hm7 (dV B (B 22 75)) (B := B)) im1 lm1 .null
      refine ⟨eO (vFall B nj (cSpk B (nI j)) nm (dV B (B 22 75))), ⟨im1, lm1, ?_, h2, h3⟩, fun im lm1 ho hk => ?_⟩
      · simp (decide := true) only [QX11_now, Cg_mot hR (Off.rf B), hg, b32_t, gm_cont_i, gm_cont_v, gm_cont_l, if_true, if_false, dayB (Off.rf B), h1, h4, hw, gm_cat_i, n1]
        rfl
      · obtain ⟨jm1, c1, p1, r1, -, -⟩ := M_copies hR ho lm1
        obtain ⟨jm2, h5, n5, -⟩ := M_fallsTo hR p1 (rOk_eq hm7 (rRel_ok hns hr) r1) (nI j) 0 (by decide) lm1
        rw [fall0 hR p1 hr r1 hj] at h5
        rw [show (nI 0 : Int32) = 0 from rfl] at h5
        refine ⟨jm2, lm1, ?_, p1.tr n5.off, hk⟩
        simp (decide := true) only [QX12_now, Mg_mot hR ho, hg, b32_t, gm_cont_i, gm_cont_v, if_true, if_false, c1, h5]
    · cases hg2 : okI ns s with
      | false =>
        refine ⟨-1, ⟨B, lm, ?_, Off.rf B, LK.rf lm⟩, fun im lm1 ho hk => ⟨im, lm1, ?_, ho, hk⟩⟩
        · simp (decide := true) only [QX11_now, Cg_mot hR (Off.rf B), Cg_sid hR (Off.rf B), hg, hg2, hs1, b32_f, b32_t, gm_cont_i, if_true, if_false]
        · simp (decide := true) only [QX12_now, Mg_mot hR ho, Mg_sid hR ho, hg, hg2, hs1, b32_f, b32_t, gm_cont_i, if_true, if_false]
      | true =>
        obtain ⟨j, hj, rfl⟩ := okI_t (by omega) hg
        obtain ⟨q, hq, rfl⟩ := okI_t (by omega) hg2
        obtain ⟨im1, lm1, h1, h2, h3, h4⟩ := key j hj rfl
        have hw := C_total (vLanes hn8 (cSpk B (nI j)) hm7 (dV B (B 22 75)) (B := B)) (show q < 3 by omega) im1 lm1 .null
        refine ⟨nI (vSu B nj (cSpk B (nI j)) nm (dV B (B 22 75)) 255 q), ⟨im1, lm1, ?_, h2, h3⟩, fun im lm1 ho hk => ?_⟩
        · simp (decide := true) only [QX11_now, Cg_mot hR (Off.rf B), Cg_sid hR (Off.rf B), hg, hg2, hs1, b32_t, gm_cont_i, gm_cont_v, gm_cont_l, if_true, if_false, dayB (Off.rf B), h1, h4, hw, gm_cat_i, n1]
        · obtain ⟨jm1, c1, p1, r1, -, -⟩ := M_copies hR ho lm1
          obtain ⟨jm2, h5, n5, t5⟩ := M_fillsN hR p1 (rOk_eq hm7 (rRel_ok hns hr) r1) (nI j) 0 255 (by decide) (by decide) lm1
          rw [show (nI 0 : Int32) = 0 from rfl, show (nI 255 : Int32) = 255 from rfl] at h5
          have hsame := (mSum_v (B := B) (nj := nj) (l := l) 0 255 (spk_eq hm7 hr r1 (nI j)) (v := dV B (B 22 75)) (fun a ha hf => by
            refine (mV_cV1 hR p1 hr r1 ha (spk_ne hk5 hr hj ha hf) _).tr ?_
            refine vEq.tr ?_ (dV_cV B a).sy
            intro i _ _
            unfold upd
            by_cases h : i = 6
            · subst h; simp [b32, cV]
            · simp [h]) q).1
          have e5 : jm2 118 q = nI (vSu B nj (cSpk B (nI j)) nm (dV B (B 22 75)) 255 q) := by
            have e5 := (t5 q (by omega)).1
            simp only [hsame] at e5
            exact e5
          refine ⟨jm2, lm1, ?_, p1.tr n5.off, hk⟩
          simp (decide := true) only [QX12_now, Mg_mot hR ho, Mg_sid hR ho, hg, hg2, hs1, b32_t, gm_cont_i, gm_cont_v, if_true, if_false, c1, h5, i3s q (show q < 3 by omega), e5]
theorem A_likely (m s : Int32) (wb : Bool) : Agr 125 246 [.ref 0, .int m, .int s, .int (b32 wb)] [.ref 84, .int m, .int s, .int (b32 wb)] := by
  refine agrQ ?_
  intro B lm l nm nk nj ns hI
  obtain ⟨hR, hr, -⟩ := hI
  have hm7 := iR_nm hR
  have hn8 := iR_nj hR
  have hk5 := iR_nk hR
  have hns := iR_ns hR
  cases hg : okI nk m with
  | false =>
    refine ⟨-1, ⟨B, lm, ?_, Off.rf B, LK.rf lm⟩, fun im lm1 ho hk => ⟨im, lm1, ?_, ho, hk⟩⟩
    · simp (decide := true) only [QX11_likely, Cg_mot hR (Off.rf B), hg, b32_f, gm_cont_i, if_true, if_false]
    · simp (decide := true) only [QX12_likely, M_isAsked hR ho, hg, Bool.false_and, b32_f, gm_cont_i, if_true, if_false]
  | true =>
    cases hg2 : okI ns s with
    | false =>
      refine ⟨-1, ⟨B, lm, ?_, Off.rf B, LK.rf lm⟩, fun im lm1 ho hk => ⟨im, lm1, ?_, ho, hk⟩⟩
      · simp (decide := true) only [QX11_likely, Cg_mot hR (Off.rf B), Cg_sid hR (Off.rf B), hg, hg2, b32_f, b32_t, gm_cont_i, if_true, if_false]
      · simp (decide := true) only [QX12_likely, M_isAsked hR ho, hg, hg2, Bool.and_false, b32_f, gm_cont_i, if_true, if_false]
    | true =>
      obtain ⟨j, hj, rfl⟩ := okI_t (by omega) hg
      have hle := gc_le (cSpk B (nI j)) nm
      obtain ⟨im1, lm1, h1, o1, d1, e1, f1⟩ := C_gatherD hR (Off.rf B) (nI j) lm
      obtain ⟨im2, h2, o2, d2, w2, f2⟩ := C_weigh hR o1 d1 lm1
      obtain ⟨im3, lm3, h3, o3, d3, e3, f3, g3⟩ := C_turnBySlip hR o2 d2 lm1
      have hpk : ∀ a, a < nm → cSpk B (nI j) a = true → pOk (dV B (B 22 75) a) := fun a ha _ => pOk_eq (dV_cV B a 4 (by decide) (by decide)) (cV_pOk hR hr ha)
      have hpk1 : ∀ a, a < nm → cSpk B (nI j) a = true → pOk (upd (dV B (B 22 75) a) 6 1) := fun a ha hf => pOk_eq (by simp [upd]) (hpk a ha hf)
      have hw := wins_of (us := lm3 73) (tu := lm3 74) (nj := nj) (B := B) hn8 hm7 (f := cSpk B (nI j)) (v0 := dV B (B 22 75)) (v1 := fun a => upd (dV B (B 22 75) a) 6 1) (by rw [f3 73 (by decide)]; exact e1) e3 hpk hpk1 (2 ^ gc (cSpk B (nI j)) nm)
      have hwt : ∀ s, s < 2 ^ gc (cSpk B (nI j)) nm → im3 77 s = nI (gW B (cSpk B (nI j)) nm s (gc (cSpk B (nI j)) nm)) ∧ gW B (cSpk B (nI j)) nm s (gc (cSpk B (nI j)) nm) < 2 ^ 31 := fun s hs => ⟨by rw [g3 77 (by decide)]; exact w2 s hs, by
        have := gW_le hR (cSpk B (nI j)) s (gc (cSpk B (nI j)) nm) (Nat.le_refl _)
        have := p107 (show gc (cSpk B (nI j)) nm ≤ 7 by omega)
        omega⟩
      obtain ⟨lm4, h4, f4⟩ := C_chanceOf im3 lm3 (gc (cSpk B (nI j)) nm) d3.1 (by omega) s (fun s => gW B (cSpk B (nI j)) nm s (gc (cSpk B (nI j)) nm)) hwt _ hw
      generalize hX : fI (chF s (fun s => gW B (cSpk B (nI j)) nm s (gc (cSpk B (nI j)) nm)) (fun s => vFall B nj (cSpk B (nI j)) nm (fun a => if s.testBit (gc (cSpk B (nI j)) a) then upd (dV B (B 22 75) a) 6 1 else dV B (B 22 75) a))) 0 (2 ^ gc (cSpk B (nI j)) nm) = X at h4
      have hXb : X ≤ 1280000000 := by
        rw [← hX]
        have h9 := chF_le s (fun s => gW B (cSpk B (nI j)) nm s (gc (cSpk B (nI j)) nm)) (fun s => vFall B nj (cSpk B (nI j)) nm (fun a => if s.testBit (gc (cSpk B (nI j)) a) then upd (dV B (B 22 75) a) 6 1 else dV B (B 22 75) a)) (10 ^ 7) (2 ^ gc (cSpk B (nI j)) nm) (fun s _ => Nat.le_trans (gW_le hR (cSpk B (nI j)) s (gc (cSpk B (nI j)) nm) (Nat.le_refl _)) (p107 (show gc (cSpk B (nI j)) nm ≤ 7 by omega)))
        have h8 : 10 ^ 7 * 2 ^ gc (cSpk B (nI j)) nm ≤ 10 ^ 7 * 128 := Nat.mul_le_mul_left _ (p27 (show gc (cSpk B (nI j)) nm ≤ 7 by omega))
        omega
      have h5 := C_allChances im3 lm4 (gc (cSpk B (nI j)) nm) d3.1 (by omega)
      have h10 := p107 (show gc (cSpk B (nI j)) nm ≤ 7 by omega)
      have h6 := C_lessened im3 lm4 (show X < 2 ^ 31 by omega) (show 10 ^ gc (cSpk B (nI j)) nm < 2 ^ 31 by omega) (Nat.pow_pos (by decide)) wb
      refine ⟨nI ((if wb then 10 ^ gc (cSpk B (nI j)) nm else X) / Nat.gcd X (10 ^ gc (cSpk B (nI j)) nm)), ⟨im3, lm4, ?_, o3, ((f1.mo (K := [73, 74, 75]) (by decide)).tr ((f3.mo (by decide)).tr (f4.mo (by decide)))).lk (by decide) (by decide)⟩, fun im lmx ho hk => ?_⟩
      · simp (decide := true) only [QX11_likely, Cg_mot hR (Off.rf B), Cg_sid hR (Off.rf B), hg, hg2, b32_t, gm_cont_i, gm_cont_v, if_true, if_false, dayB (Off.rf B), h1, h2, h3, h4, h5, h6]
      · obtain ⟨jm1, c1, p1, r1, -, -⟩ := M_copies hR ho lmx
        obtain ⟨jm2, q5, n5⟩ := M_oftenFalls hR p1 (rOk_eq hm7 (rRel_ok hns hr) r1) (nI j) s lmx
        have ce := chance_eq (nj := nj) (B := B) hR (im := jm1) (m := nI j) (side := s) (spk_eq hm7 hr r1 (nI j)) (dV B (B 22 75)) (fun a => upd (dV B (B 22 75) a) 6 1) (fun a ha hf t => by
          refine (mV_cV1 hR p1 hr r1 ha (spk_ne hk5 hr hj ha hf) _).tr ?_
          by_cases hb : t.testBit a = true
          · rw [hb, if_pos rfl]
            exact ((dV_cV B a).sy.up 6 1)
          · simp only [Bool.not_eq_true] at hb
            rw [hb, if_neg (by decide)]
            refine vEq.tr ?_ (dV_cV B a).sy
            intro i _ _
            unfold upd
            by_cases h : i = 6
            · subst h; simp [b32, cV]
            · simp [h])
        rw [hX] at ce
        rw [← ce] at q5
        have q6 := M_lineOf hR (p1.tr n5.off) (nI j) lmx (show X < 2 ^ 31 by omega) wb
        have eg : gc (mSpk jm2 (nI j)) nm = gc (cSpk B (nI j)) nm := gc_ext (fun a ha => by
          rw [← spk_eq hm7 hr r1 (nI j) a ha]; unfold mSpk; rw [n5.r])
        rw [eg] at q6
        refine ⟨jm2, lmx, ?_, p1.tr n5.off, hk⟩
        simp (decide := true) only [QX12_likely, M_isAsked hR ho, hg, hg2, Bool.and_self, b32_t, gm_cont_i, gm_cont_v, if_true, if_false, c1, q5, q6]
/-- the next one's mean -/
def oMe (S N : Nat → Nat) : Option Nat → Int32
  | none => -1
  | some b => nI (gMean S N b)
theorem M_ahead_loop {im : gm_I} {S N : Nat → Nat} (h : tally im S N) (hpos : ∀ s, s < 3 → (0 < S s ↔ 0 < N s)) (a : Nat) (ha : a < 3) (m : Int32) (lm : gm_L) : ∀ (w s : Nat), s + w = 3 → gm_den 259 33 [.ref 84, .int m, .int (nI a), .int (oMe S N (gwl (nI a) S N s)), .int (nI s)] [] 128 gm_RF im lm = gm_den 259 78 [.ref 84, .int m, .int (nI a), .int (oMe S N (gwl (nI a) S N 3)), .int (nI 3)] [] 128 gm_RF im lm := by
  intro w
  induction w with
  | zero =>
    intro s hw
    have : s = 3 := by omega
    subst this
    rw [LX12_ahead_33]
    simp (decide := true) only [QX12_ahead, if_true]
  | succ w ih =>
    intro s hw
    have hs3 : s < 3 := by omega
    have ih1 := ih (s + 1) (by omega)
    obtain ⟨h1, h2, h3, h4⟩ := h s hs3
    have hlt : ¬ (3 : Int32) ≤ nI s := nI_ge (b := 3) hs3 (by decide)
    rw [← ih1, LX12_ahead_33]
    by_cases hl : nI s = nI a
    · have hsa : s = a := by
        have h9 := nI_clamp (show s < 2 ^ 31 by omega)
        rw [hl, nI_clamp (by omega)] at h9
        exact h9.symm
      subst hsa
      simp only [gwl, if_true]
      simp (decide := true) only [QX12_ahead, hlt, if_true, if_false, nI_a1]
    · by_cases hN : 0 < N s
      · simp only [gwl, if_neg hl]
        have hS := (hpos s hs3).mpr hN
        have hle : ¬ nI (N s) ≤ 0 := nI_nle hN (by omega)
        have hm1 := M_meanOf h hs3 hN lm
        have g1 := gMean_le (N := N) h3
        cases hg : gwl (nI a) S N s with
        | none =>
          have hx : ¬ nI (gMean S N s) ≤ -1 := by
            rw [Int32.not_le]
            exact Int32.lt_of_lt_of_le (show (-1 : Int32) < 0 by decide) (nI_le (a := 0) (Nat.zero_le _) (by omega))
          simp (decide := true) only [QX12_ahead, hlt, if_true, if_false, hl, i3s s hs3, h2, hle, hm1, gm_cont_i, oMe, hx, hS, nI_a1]
        | some b =>
          obtain ⟨hb1, -⟩ := gwl_lt hg
          have hb3 : b < 3 := by omega
          have hSb : 0 < S b := by
            have hp : pos S N := fun s hs hh => (hpos s hs).mp hh
            exact (gwl_max hp (show s ≤ 3 by omega) hg).2.1
          have hNb := (hpos b hb3).mp hSb
          have hc := mean_lt (S := S) hN h4 hNb (h b hb3).2.2.2
          have g2 := gMean_le (N := N) (h b hb3).2.2.1
          by_cases hcm : S b * N s < S s * N b
          · have hx : ¬ nI (gMean S N s) ≤ nI (gMean S N b) := nI_ge (hc.mpr hcm) (by omega)
            simp (decide := true) only [QX12_ahead, hlt, if_true, if_false, hl, i3s s hs3, h2, hle, hm1, gm_cont_i, oMe, hx, hcm, nI_a1]
          · have hx : nI (gMean S N s) ≤ nI (gMean S N b) := nI_le (by omega) (by omega)
            simp (decide := true) only [QX12_ahead, hlt, if_true, if_false, hl, i3s s hs3, h2, hle, hm1, gm_cont_i, oMe, hx, hcm, nI_a1]
      · have h0 : N s = 0 := by omega
        have hS0 : ¬ 0 < S s := fun hh => hN ((hpos s hs3).mp hh)
        have hle : nI (N s) ≤ 0 := by rw [h0]; decide
        have e : gwl (nI a) S N (s + 1) = gwl (nI a) S N s := by
          simp only [gwl, if_neg hl]
          cases gwl (nI a) S N s with
          | none => simp [hS0]
          | some b => simp [show S s = 0 by omega]
        rw [e]
        simp (decide := true) only [QX12_ahead, hlt, if_true, if_false, hl, i3s s hs3, h2, hle, nI_a1]
theorem lead_num {S N : Nat → Nat} {a b : Nat} (ha : 0 < N a) (ha7 : N a ≤ 7) (hb : 0 < N b) (hb7 : N b ≤ 7) : (gMean S N a - gMean S N b) * 100 / 420 = 100 * (S a * N b - S b * N a) / (N a * N b) := by
  unfold gMean
  generalize N a = x at *
  generalize N b = y at *
  generalize S a = u
  generalize S b = v
  have hx : x = 1 ∨ x = 2 ∨ x = 3 ∨ x = 4 ∨ x = 5 ∨ x = 6 ∨ x = 7 := by omega
  have hy : y = 1 ∨ y = 2 ∨ y = 3 ∨ y = 4 ∨ y = 5 ∨ y = 6 ∨ y = 7 := by omega
  rcases hx with rfl | rfl | rfl | rfl | rfl | rfl | rfl <;> rcases hy with rfl | rfl | rfl | rfl | rfl | rfl | rfl <;> omega
theorem A_ahead (m : Int32) : Agr 133 259 [.ref 0, .int m] [.ref 84, .int m, .null, .null, .null] := by
  refine agrQ ?_
  intro B lm l nm nk nj ns hI
  obtain ⟨hR, hr, -⟩ := hI
  have hm7 := iR_nm hR
  have hn8 := iR_nj hR
  have hk5 := iR_nk hR
  have hns := iR_ns hR
  have n1 : Value.category .null = 1 := rfl
  cases hg : okI nk m with
  | false =>
    refine ⟨-1, ⟨B, lm, ?_, Off.rf B, LK.rf lm⟩, fun im lm1 ho hk => ⟨im, lm1, ?_, ho, hk⟩⟩
    · simp (decide := true) only [QX11_ahead, Cg_mot hR (Off.rf B), hg, b32_f, gm_cont_i, if_true, if_false]
    · simp (decide := true) only [QX12_ahead, Mg_mot hR ho, hg, b32_f, gm_cont_i, if_true, if_false]
  | true =>
    obtain ⟨j, hj, rfl⟩ := okI_t (by omega) hg
    obtain ⟨im1, lm1, h1, h2, h3, h4, h5⟩ := C_gatherD hR (Off.rf B) (nI j) lm
    have hbg := C_asItIs im1 lm1 _ h3.1 (by have := gc_le (cSpk B (nI j)) nm; omega)
    rw [bag0 hn8 (fun a ha _ => pOk_eq (dV_cV B a 4 (by decide) (by decide)) (cV_pOk hR hr ha)) h4] at hbg
    have hla := vLanes hn8 (cSpk B (nI j)) hm7 (dV B (B 22 75)) (B := B)
    have hpo := vPos (B := B) nj (cSpk B (nI j)) nm (dV B (B 22 75)) 255
    have hld := C_lead hla hpo im1 lm1
    refine ⟨gLead (vSu B nj (cSpk B (nI j)) nm (dV B (B 22 75)) 255) (vNu (cSpk B (nI j)) nm (dV B (B 22 75))), ⟨im1, lm1, ?_, h2, h5.lk (by decide) (by decide)⟩, fun im lm1 ho hk => ?_⟩
    · simp (decide := true) only [QX11_ahead, Cg_mot hR (Off.rf B), hg, b32_t, gm_cont_i, gm_cont_v, gm_cont_l, if_true, if_false, dayB (Off.rf B), h1, hbg, hld]
    · obtain ⟨jm1, c1, p1, r1, -, -⟩ := M_copies hR ho lm1
      obtain ⟨jm2, q5, n5, t5⟩ := M_fallsTo hR p1 (rOk_eq hm7 (rRel_ok hns hr) r1) (nI j) 0 (by decide) lm1
      rw [fall0 hR p1 hr r1 hj] at q5
      rw [show (nI 0 : Int32) = 0 from rfl] at q5
      refine ⟨jm2, lm1, ?_, p1.tr n5.off, hk⟩
      unfold gLead
      cases hv : gw (vSu B nj (cSpk B (nI j)) nm (dV B (B 22 75)) 255) (vNu (cSpk B (nI j)) nm (dV B (B 22 75))) 3 with
      | none =>
        have e : vFall B nj (cSpk B (nI j)) nm (dV B (B 22 75)) = none := hv
        rw [e] at q5
        simp (decide := true) only [QX12_ahead, Mg_mot hR ho, hg, b32_t, gm_cont_i, gm_cont_v, if_true, if_false, c1, q5, eO, gm_cat_i, n1]
      | some a =>
        have e : vFall B nj (cSpk B (nI j)) nm (dV B (B 22 75)) = some a := hv
        rw [e] at q5
        obtain ⟨ha3, ha0, ham⟩ := gw_max hpo hv
        have hnj0 : nj ≠ 0 := by
          intro h0
          subst h0
          have := gN_le (cSpk B (nI j)) (fun b => pN (dV B (B 22 75) b)) (fun b => vS B 0 (dV B (B 22 75) b) 255) a nm 0 (fun _ _ => Nat.le_refl _)
          unfold vSu at ha0
          omega
        have ht := t5 hnj0
        have hsame : ∀ s, gN (mSpk jm1 (nI j)) (mP jm1 l) (fun a => mSm B jm1 l nj a (b32 (Nat.testBit 0 a)) 255) s nm = vSu B nj (cSpk B (nI j)) nm (dV B (B 22 75)) 255 s ∧ gN (mSpk jm1 (nI j)) (mP jm1 l) (fun _ => 1) s nm = vNu (cSpk B (nI j)) nm (dV B (B 22 75)) s := fun s => mSum_v 0 255 (spk_eq hm7 hr r1 (nI j)) (v := dV B (B 22 75)) (fun a ha hf => by
            refine (mV_cV1 hR p1 hr r1 ha (spk_ne hk5 hr hj ha hf) _).tr ?_
            refine vEq.tr ?_ (dV_cV B a).sy
            intro i _ _
            unfold upd
            by_cases h : i = 6
            · subst h; simp [b32, cV]
            · simp [h]) s
        have ht2 : tally jm2 (vSu B nj (cSpk B (nI j)) nm (dV B (B 22 75)) 255) (vNu (cSpk B (nI j)) nm (dV B (B 22 75))) := by
          intro s hs
          have := ht s hs
          simp only [(hsame s).1, (hsame s).2] at this
          exact this
        have hiff : ∀ s, s < 3 → (0 < vSu B nj (cSpk B (nI j)) nm (dV B (B 22 75)) 255 s ↔ 0 < vNu (cSpk B (nI j)) nm (dV B (B 22 75)) s) := fun s _ => gN_pos _ _ _ s nm (fun a _ _ => vS_pos _ _ _ hnj0)
        generalize hS : vSu B nj (cSpk B (nI j)) nm (dV B (B 22 75)) 255 = S at *
        generalize hN : vNu (cSpk B (nI j)) nm (dV B (B 22 75)) = N at *
        have hlp := M_ahead_loop ht2 hiff a ha3 (nI j) lm1 3 0 (by omega)
        have hna : ¬ nI a < 0 := nI_nlt (Nat.zero_le a) (by omega)
        have hna2 := Int32.not_lt.mp hna
        have NA := (hiff a ha3).mp ha0
        have hma := M_meanOf ht2 ha3 NA lm1
        have e0 : gm_den 259 0 [.ref 84, .int (nI j), .null, .null, .null] [] 128 gm_RF im lm1 = gm_den 259 33 [.ref 84, .int (nI j), .int (nI a), .int (oMe S N (gwl (nI a) S N 0)), .int (nI 0)] [] 128 gm_RF jm2 lm1 := by
          simp (decide := true) only [QX12_ahead, Mg_mot hR ho, hg, b32_t, gm_cont_i, gm_cont_v, if_true, if_false, c1, q5, eO, gm_cat_i, n1, hna2]
          rfl
        rw [e0, hlp]
        simp only []
        cases hl : gwl (nI a) S N 3 with
        | none => simp (decide := true) only [QX12_ahead, oMe, if_true, if_false]
        | some b =>
          obtain ⟨hb3, hb0, hbm⟩ := gwl_max hpo (Nat.le_refl 3) hl
          have NB := (hiff b hb3).mp hb0
          have g1 := gMean_le (N := N) (ht2 a ha3).2.2.1
          have g2 := gMean_le (N := N) (ht2 b hb3).2.2.1
          have hge : gMean S N b ≤ gMean S N a := by
            have := mean_lt (S := S) NB (ht2 b hb3).2.2.2 NA (ht2 a ha3).2.2.2
            have hh := ham b hb3
            have h9 : ¬ gMean S N a < gMean S N b := fun hx => by
              have := this.mp hx
              omega
            omega
          have hz : 0 ≤ nI (gMean S N b) := nI_le (a := 0) (Nat.zero_le _) (by omega)
          have e9 : (nI (gMean S N a) - nI (gMean S N b)) * 100 / 420 = nI (100 * (S a * N b - S b * N a) / (N a * N b)) := by
            rw [nI_sub hge, show (100 : Int32) = nI 100 from rfl, show (420 : Int32) = nI 420 from rfl, nI_mul, nI_div (by omega) (by decide) (by decide), lead_num NA (ht2 a ha3).2.2.2 NB (ht2 b hb3).2.2.2]
          simp (decide := true) only [QX12_ahead, oMe, hz, if_true, if_false, hma, gm_cont_i, e9]
