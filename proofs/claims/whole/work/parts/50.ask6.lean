/-! questions: harsh, praiseFor -/
section
variable {B im : gm_I} {l nm nk nj ns : Nat}
theorem mV_d0 (hR : iRoll B l nm nk nj ns) (ho : Off B im) (hr : rRel (B 22) (B 116) nm nk ns) (h117 : ∀ j, j < 80 → im 117 j = B 116 j) {a : Nat} (ha : a < nm) (hsp : ¬ B 116 (21 + a) = -2) : vEq (mV im l a (im 117 (28 + a)) 0) (dV B (B 22 75) a) := by
  refine (mV_cV1 hR ho hr h117 ha hsp 0).tr ?_
  refine vEq.tr ?_ (dV_cV B a).sy
  intro i _ _
  unfold upd
  by_cases h : i = 6
  · subst h; simp [cV]
  · simp [h]
theorem M_given_loop (hR : iRoll B l nm nk nj ns) (hr : rRel (B 22) (B 116) nm nk ns) {m : Nat} (hm : m < nk) {q : Nat} (hq : q < nj) (lm : gm_L) : ∀ (w a : Nat) (im : gm_I), a + w = nm → Off B im → (∀ j, j < 80 → im 117 j = B 116 j) → ∃ im', gm_den 260 5 [.ref 84, .int (nI q), .int (nI m), .int (nI (gG (cSpk B (nI m)) (jM B (dV B (B 22 75)) q) a)), .int (nI a)] [] 128 gm_RF im lm = some (some (.int (nI (gG (cSpk B (nI m)) (jM B (dV B (B 22 75)) q) nm))), 128, gm_RF, im', lm) ∧ mOff im im' := by
  have hm7 := iR_nm hR
  have hl2 := iR_l hR
  have hn8 := iR_nj hR
  intro w
  induction w with
  | zero =>
    intro a im hw ho h117
    have : a = nm := by omega
    subst this
    refine ⟨im, ?_, mOff.rf im⟩
    rw [LX12_givenBy_5]
    simp only [QX12_givenBy, iR_18 hR ho, i2 l hl2, iR_94 hR ho, nI_le (Nat.le_refl a) (show a < 2 ^ 31 by omega), if_true]
  | succ w ih =>
    intro a im hw ho h117
    have ha : a < nm := by omega
    have hlt : ¬ nI nm ≤ nI a := nI_ge (by omega) (by omega)
    have e21 : im 117 (21 + a) = B 22 (10 * a + 3) := by rw [h117 _ (by omega), (rR_top hr ha).1]
    rw [LX12_givenBy_5]
    by_cases hb : B 22 (10 * a + 3) = nI m
    · have hf : cSpk B (nI m) a = true := by simp [cSpk, hb]
      have hsp := spk_ne (iR_nk hR) hr hm ha hf
      have hok := rOk_eq hm7 (rRel_ok (iR_ns hR) hr) h117
      obtain ⟨im1, h1, n1⟩ := M_goodNowB hR ho hok.2 a 0 lm ha
      rw [vGd_eq (mV_d0 hR ho hr h117 ha hsp)] at h1
      have o1 := ho.tr n1.off
      have r1 : ∀ k, k < 80 → im1 117 k = B 116 k := fun k hk => by rw [n1.1 117 (by decide) (by decide) (by decide)]; exact h117 k hk
      obtain ⟨im2, h2, n2⟩ := M_markBy q a l (im 117 (28 + a)) 0 (vGd B (dV B (B 22 75) a)) im1 lm (by omega) (by omega) (iR_18 hR o1) hl2 (iR_ns0 hR o1) (mLaws_B o1.law (iR_ml hR))
      have em : im 117 (28 + a) = im1 117 (28 + a) := by rw [n1.1 117 (by decide) (by decide) (by decide)]
      rw [mMark_B hR o1 hq, em, vMk_eq (mV_d0 hR o1 hr r1 ha hsp), ← em, (vMn_ok B (dV B (B 22 75) a) q (vGd B (dV B (B 22 75) a))).1] at h2
      have o2 := o1.tr n2.off
      have r2 : ∀ k, k < 80 → im2 117 k = B 116 k := fun k hk => by rw [n2.1 117 (by decide) (by decide) (by decide)]; exact r1 k hk
      obtain ⟨im', h3, n3⟩ := ih (a + 1) im2 (by omega) o2 r2
      have e : gG (cSpk B (nI m)) (jM B (dV B (B 22 75)) q) (a + 1) = gG (cSpk B (nI m)) (jM B (dV B (B 22 75)) q) a + vMn B (dV B (B 22 75) a) q (vGd B (dV B (B 22 75) a)) := by simp only [gG, hf, if_true]; rfl
      rw [e] at h3
      refine ⟨im', ?_, (n1.tr n2).tr n3⟩
      simp (decide := true) only [QX12_givenBy, iR_18 hR ho, i2 l hl2, iR_94 hR ho, hlt, if_false, if_true, ixr7 a (show a < 7 by omega), e21, hb, h1, gm_cont_i, h2, nI_add, nI_a1]
      exact h3
    · have hf : cSpk B (nI m) a = false := by simp [cSpk, hb]
      obtain ⟨im', h3, n3⟩ := ih (a + 1) im (by omega) ho h117
      have e : gG (cSpk B (nI m)) (jM B (dV B (B 22 75)) q) (a + 1) = gG (cSpk B (nI m)) (jM B (dV B (B 22 75)) q) a := by simp [gG, hf]
      rw [e] at h3
      refine ⟨im', ?_, n3⟩
      simp (decide := true) only [QX12_givenBy, iR_18 hR ho, i2 l hl2, iR_94 hR ho, hlt, if_false, if_true, ixr7 a (show a < 7 by omega), e21, hb, nI_a1]
      exact h3
theorem M_givenBy (hR : iRoll B l nm nk nj ns) (hr : rRel (B 22) (B 116) nm nk ns) {m : Nat} (hm : m < nk) {q : Nat} (hq : q < nj) (lm : gm_L) (ho : Off B im) (h117 : ∀ j, j < 80 → im 117 j = B 116 j) : ∃ im', gm_den 260 0 [.ref 84, .int (nI q), .int (nI m), .null, .null] [] 128 gm_RF im lm = some (some (.int (nI (gG (cSpk B (nI m)) (jM B (dV B (B 22 75)) q) nm))), 128, gm_RF, im', lm) ∧ mOff im im' := by
  obtain ⟨im', h1, h2⟩ := M_given_loop hR hr hm hq lm nm 0 im (by omega) ho h117
  refine ⟨im', ?_, h2⟩
  have n1 : Value.category .null = 1 := rfl
  simp only [QX12_givenBy, gm_cat_i, n1]
  exact h1
theorem M_harsh_loop (hR : iRoll B l nm nk nj ns) (hr : rRel (B 22) (B 116) nm nk ns) {m : Nat} (hm : m < nk) (kind : Bool) (lm : gm_L) : ∀ (w j : Nat) (im : gm_I) (b : Nat), j + w = nj → Off B im → (∀ j, j < 80 → im 117 j = B 116 j) → hB kind (fun j => gG (cSpk B (nI m)) (jM B (dV B (B 22 75)) j) nm) j = some b → ∃ im', gm_den 261 42 [.ref 84, .int (nI m), .int (b32 kind), .int (nI b), .int (nI j)] [] 128 gm_RF im lm = some (some (.int (eO (hB kind (fun j => gG (cSpk B (nI m)) (jM B (dV B (B 22 75)) j) nm) nj))), 128, gm_RF, im', lm) ∧ Off B im' := by
  have hm7 := iR_nm hR
  have hl2 := iR_l hR
  have hn8 := iR_nj hR
  intro w
  induction w with
  | zero =>
    intro j im b hw ho h117 hb
    have : j = nj := by omega
    subst this
    refine ⟨im, ?_, ho⟩
    rw [LX12_harsh_42, hb]
    simp only [QX12_harsh, iR_18 hR ho, i2 l hl2, iR_101 hR ho, nI_le (Nat.le_refl j) (show j < 2 ^ 31 by omega), if_true, eO]
  | succ w ih =>
    intro j im b hw ho h117 hb
    have hbj := hB_lt hb
    have hlt : ¬ nI nj ≤ nI j := nI_ge (by omega) (by omega)
    obtain ⟨im1, h1, n1⟩ := M_givenBy hR hr hm (show j < nj by omega) lm ho h117
    have o1 := ho.tr n1.off
    have r1 : ∀ k, k < 80 → im1 117 k = B 116 k := fun k hk => by rw [n1.1 117 (by decide) (by decide) (by decide)]; exact h117 k hk
    obtain ⟨im2, h2, n2⟩ := M_givenBy hR hr hm (show b < nj by omega) lm o1 r1
    have o2 := o1.tr n2.off
    have r2 : ∀ k, k < 80 → im2 117 k = B 116 k := fun k hk => by rw [n2.1 117 (by decide) (by decide) (by decide)]; exact r1 k hk
    have bd : ∀ q, gG (cSpk B (nI m)) (jM B (dV B (B 22 75)) q) nm ≤ 63 := fun q => by
      have := gG_le (cSpk B (nI m)) (jM B (dV B (B 22 75)) q) nm 9 (fun a _ => (vMn_ok B (dV B (B 22 75) a) q (vGd B (dV B (B 22 75) a))).2.2)
      omega
    have bj := bd j
    have bb := bd b
    rw [LX12_harsh_42]
    cases kind with
    | true =>
      by_cases hc : gG (cSpk B (nI m)) (jM B (dV B (B 22 75)) b) nm < gG (cSpk B (nI m)) (jM B (dV B (B 22 75)) j) nm
      · obtain ⟨im', h3, h4⟩ := ih (j + 1) im2 j (by omega) o2 r2 (by simp only [hB, hb, if_true, hc])
        have hx : ¬ nI (gG (cSpk B (nI m)) (jM B (dV B (B 22 75)) j) nm) ≤ nI (gG (cSpk B (nI m)) (jM B (dV B (B 22 75)) b) nm) := nI_ge hc (by omega)
        refine ⟨im', ?_, h4⟩
        rw [← h3]
        simp (decide := true) only [QX12_harsh, iR_18 hR ho, i2 l hl2, iR_101 hR ho, hlt, if_false, if_true, b32_t, h1, h2, gm_cont_i, hx, nI_a1]
      · obtain ⟨im', h3, h4⟩ := ih (j + 1) im2 b (by omega) o2 r2 (by simp only [hB, hb, if_true, hc, if_false])
        have hx : nI (gG (cSpk B (nI m)) (jM B (dV B (B 22 75)) j) nm) ≤ nI (gG (cSpk B (nI m)) (jM B (dV B (B 22 75)) b) nm) := nI_le (by omega) (by omega)
        refine ⟨im', ?_, h4⟩
        rw [← h3]
        simp (decide := true) only [QX12_harsh, iR_18 hR ho, i2 l hl2, iR_101 hR ho, hlt, if_false, if_true, b32_t, h1, h2, gm_cont_i, hx, nI_a1]
    | false =>
      by_cases hc : gG (cSpk B (nI m)) (jM B (dV B (B 22 75)) j) nm < gG (cSpk B (nI m)) (jM B (dV B (B 22 75)) b) nm
      · obtain ⟨im', h3, h4⟩ := ih (j + 1) im2 j (by omega) o2 r2 (by simp only [hB, hb, Bool.false_eq_true, if_true, if_false, hc])
        have hx : ¬ nI (gG (cSpk B (nI m)) (jM B (dV B (B 22 75)) b) nm) ≤ nI (gG (cSpk B (nI m)) (jM B (dV B (B 22 75)) j) nm) := nI_ge hc (by omega)
        refine ⟨im', ?_, h4⟩
        rw [← h3]
        simp (decide := true) only [QX12_harsh, iR_18 hR ho, i2 l hl2, iR_101 hR ho, hlt, if_false, if_true, b32_f, h1, h2, gm_cont_i, hx, nI_a1]
      · obtain ⟨im', h3, h4⟩ := ih (j + 1) im2 b (by omega) o2 r2 (by simp only [hB, hb, Bool.false_eq_true, if_false, hc])
        have hx : nI (gG (cSpk B (nI m)) (jM B (dV B (B 22 75)) b) nm) ≤ nI (gG (cSpk B (nI m)) (jM B (dV B (B 22 75)) j) nm) := nI_le (by omega) (by omega)
        refine ⟨im', ?_, h4⟩
        rw [← h3]
        simp (decide := true) only [QX12_harsh, iR_18 hR ho, i2 l hl2, iR_101 hR ho, hlt, if_false, if_true, b32_f, h1, h2, gm_cont_i, hx, nI_a1]
end
theorem A_harsh (m : Int32) (kind : Bool) : Agr 134 261 [.ref 0, .int m, .int (b32 kind)] [.ref 84, .int m, .int (b32 kind), .null, .null] := by
  refine agrQ ?_
  intro B lm l nm nk nj ns hI
  obtain ⟨hR, hr, -⟩ := hI
  have hm7 := iR_nm hR
  have hn8 := iR_nj hR
  have hk5 := iR_nk hR
  have hl2 := iR_l hR
  have n1 : Value.category .null = 1 := rfl
  cases hg : okI nk m with
  | false =>
    refine ⟨-1, ⟨B, lm, ?_, Off.rf B, LK.rf lm⟩, fun im lm1 ho hk => ⟨im, lm1, ?_, ho, hk⟩⟩
    · simp (decide := true) only [QX11_harsh, Cg_mot hR (Off.rf B), hg, b32_f, gm_cont_i, if_true, if_false]
    · simp (decide := true) only [QX12_harsh, Mg_mot hR ho, hg, b32_f, gm_cont_i, if_true, if_false]
  | true =>
    obtain ⟨j, hj, rfl⟩ := okI_t (by omega) hg
    have hM := gM_128 (cSpk B (nI j)) hm7
    by_cases h0 : gM (cSpk B (nI j)) nm = 0
    · refine ⟨-2, ⟨B, lm, ?_, Off.rf B, LK.rf lm⟩, fun im lm1 ho hk => ?_⟩
      · simp (decide := true) only [QX11_harsh, Cg_mot hR (Off.rf B), hg, b32_t, gm_cont_i, if_true, if_false, C_speakersOn hR (Off.rf B), h0]
      · obtain ⟨jm1, c1, p1, r1, -, -⟩ := M_copies hR ho lm1
        refine ⟨jm1, lm1, ?_, p1, hk⟩
        by_cases hz : nj = 0
        · have hz2 : nI nj = 0 := by rw [hz]; rfl
          simp (decide := true) only [QX12_harsh, Mg_mot hR ho, hg, b32_t, gm_cont_i, gm_cont_v, if_true, if_false, c1, iR_18 hR p1, i2 l hl2, iR_101 hR p1, hz2]
        · have hz2 : ¬ nI nj = 0 := nI_ne0 (by omega) (by omega)
          simp (decide := true) only [QX12_harsh, Mg_mot hR ho, hg, b32_t, gm_cont_i, gm_cont_v, if_true, if_false, c1, iR_18 hR p1, i2 l hl2, iR_101 hR p1, hz2, M_speakers hR p1, sp_eq hm7 hr r1, h0]
    · have h00 : ¬ nI (gM (cSpk B (nI j)) nm) = 0 := nI_ne0 (by omega) (by omega)
      by_cases hz : nj = 0
      · have hz2 : nI nj = 0 := by rw [hz]; rfl
        refine ⟨-2, ⟨B, lm, ?_, Off.rf B, LK.rf lm⟩, fun im lm1 ho hk => ?_⟩
        · simp (decide := true) only [QX11_harsh, Cg_mot hR (Off.rf B), hg, b32_t, gm_cont_i, if_true, if_false, C_speakersOn hR (Off.rf B), h00, iR_114 hR (Off.rf B), hz2]
        · obtain ⟨jm1, c1, p1, r1, -, -⟩ := M_copies hR ho lm1
          refine ⟨jm1, lm1, ?_, p1, hk⟩
          simp (decide := true) only [QX12_harsh, Mg_mot hR ho, hg, b32_t, gm_cont_i, gm_cont_v, if_true, if_false, c1, iR_18 hR p1, i2 l hl2, iR_101 hR p1, hz2]
      · have hz2 : ¬ nI nj = 0 := nI_ne0 (by omega) (by omega)
        obtain ⟨im1, lm1, h1, o1, d1, e1, f1⟩ := C_gatherD hR (Off.rf B) (nI j) lm
        obtain ⟨im2, lm2, h2, o2, f2, -, -, e2⟩ := C_gatherJurors hR o1 d1 lm1
        have hpk : ∀ a, a < nm → cSpk B (nI j) a = true → pOk (dV B (B 22 75) a) := fun a ha _ => pOk_eq (dV_cV B a 4 (by decide) (by decide)) (cV_pOk hR hr ha)
        have hSl : ∀ q s, q < nj → s < 3 → (fun q s => gN (cSpk B (nI j)) (fun a => pN (dV B (B 22 75) a)) (jM B (dV B (B 22 75)) q) s nm) q s ≤ 504 := fun q s _ _ => by
          have := gN_le (cSpk B (nI j)) (fun a => pN (dV B (B 22 75) a)) (jM B (dV B (B 22 75)) q) s nm 9 (fun a _ => (vMn_ok B (dV B (B 22 75) a) q (vGd B (dV B (B 22 75) a))).2.2)
          simp only []
          omega
        have h3 := C_harshest hR im2 o2 lm2 kind (fun q s => gN (cSpk B (nI j)) (fun a => pN (dV B (B 22 75) a)) (jM B (dV B (B 22 75)) q) s nm) hSl (fun q hq => by rw [e2 q hq, bagJ1 (cSpk B (nI j)) (dV B (B 22 75)) hpk q])
        have hgg : (fun q => (fun q s => gN (cSpk B (nI j)) (fun a => pN (dV B (B 22 75) a)) (jM B (dV B (B 22 75)) q) s nm) q 0 + (fun q s => gN (cSpk B (nI j)) (fun a => pN (dV B (B 22 75) a)) (jM B (dV B (B 22 75)) q) s nm) q 1 + (fun q s => gN (cSpk B (nI j)) (fun a => pN (dV B (B 22 75) a)) (jM B (dV B (B 22 75)) q) s nm) q 2) = fun q => gG (cSpk B (nI j)) (jM B (dV B (B 22 75)) q) nm := by
          funext q
          exact gG_gN (cSpk B (nI j)) (fun a => pN (dV B (B 22 75) a)) (jM B (dV B (B 22 75)) q) nm (fun a ha hf => (hpk a ha hf).2)
        rw [hgg] at h3
        refine ⟨eO (hB kind (fun q => gG (cSpk B (nI j)) (jM B (dV B (B 22 75)) q) nm) nj), ⟨im2, lm2, ?_, o2, ((f1.mo (K := [71, 73, 78]) (by decide)).tr (f2.mo (by decide))).lk (by decide) (by decide)⟩, fun im lm1 ho hk => ?_⟩
        · simp (decide := true) only [QX11_harsh, Cg_mot hR (Off.rf B), hg, b32_t, gm_cont_i, gm_cont_v, if_true, if_false, C_speakersOn hR (Off.rf B), h00, iR_114 hR (Off.rf B), hz2, dayB (Off.rf B), h1, h2, h3]
        · obtain ⟨jm1, c1, p1, r1, -, -⟩ := M_copies hR ho lm1
          obtain ⟨jm2, q5, o5⟩ := M_harsh_loop hR hr hj kind lm1 (nj - 1) 1 jm1 0 (by omega) p1 r1 rfl
          refine ⟨jm2, lm1, ?_, o5, hk⟩
          rw [← q5]
          simp (decide := true) only [QX12_harsh, Mg_mot hR ho, hg, b32_t, gm_cont_i, gm_cont_v, if_true, if_false, c1, iR_18 hR p1, i2 l hl2, iR_101 hR p1, hz2, M_speakers hR p1, sp_eq hm7 hr r1, h00, gm_cat_i, n1]
          rfl
/-- a search for praise enough -/
def pfS (fl : Nat → Option Nat) (side : Int32) : Nat → Nat → Int32
  | _, 0 => -2
  | n, w + 1 => if eO (fl n) = side then nI n else pfS fl side (n + 1) w
theorem gL_one {f : Nat → Bool} (F G : Nat → Int64) {k n : Nat} (hk : k < n) (hf : f k = true) (h : ∀ i, i ≠ k → F i = G i) : gL f F n = gL f G n - G k + F k := by
  induction n with
  | zero => omega
  | succ n ih =>
    simp only [gL]
    by_cases e : k = n
    · subst e
      rw [if_pos hf, if_pos hf, Int64.add_sub_cancel]
      congr 1
      exact gL_ext (fun _ _ => rfl) (fun a ha _ => h a (by omega))
    · have ih1 := ih (by omega)
      by_cases hn : f n = true
      · rw [if_pos hn, if_pos hn, ih1, h n (fun e2 => e e2.symm)]
        generalize gL f G n = x
        generalize G k = y
        generalize F k = z
        generalize G n = u
        rw [Int64.sub_eq_add_neg, Int64.sub_eq_add_neg]
        rw [Int64.add_assoc, Int64.add_assoc, Int64.add_assoc, Int64.add_assoc]
        congr 1
        rw [Int64.add_comm (-y) (z + u), Int64.add_assoc, Int64.add_comm z, Int64.add_assoc]
      · rw [if_neg hn, if_neg hn]; exact ih1
/-- voices if one were praised so -/
def pfV (B : gm_I) (a : Nat) (p : Int32) (b : Nat) : Nat → Int32 := if b = a then upd (cV B a) 7 p else dV B (B 22 75) b
section
variable {B : gm_I} {l nm nk nj ns : Nat}
theorem pfV_pOk (hR : iRoll B l nm nk nj ns) (hr : rRel (B 22) (B 116) nm nk ns) (a : Nat) (p : Int32) {b : Nat} (hb : b < nm) : pOk (pfV B a p b) := by
  unfold pfV
  split
  · rename_i h; subst h; exact pOk_eq (by simp [upd]) (cV_pOk hR hr hb)
  · exact pOk_eq (dV_cV B b 4 (by decide) (by decide)) (cV_pOk hR hr hb)
theorem C_pf_loop (hR : iRoll B l nm nk nj ns) (hr : rRel (B 22) (B 116) nm nk ns) {m a : Nat} (hm : m < nk) (ha : a < nm) (hf : cSpk B (nI m) a = true) (side : Int32) {p : Nat} (hp : p ≤ 9) (lm : gm_L) : ∀ (w n : Nat) (im : gm_I), p + n + w = 10 → Off B im → vEq (upd (im 69) 7 0) (upd (cV B a) 7 0) → ∃ im', gm_den 135 98 [.ref 0, .int (nI m), .int side, .int (nI a), .long (gL (cSpk B (nI m)) (fun b => ent B nj (dV B (B 22 75) b)) nm - ent B nj (cV B a)), .null, .int (nI p), .int (nI n)] [] 128 gm_RF im lm = some (some (.int (pfS (fun n => vFall B nj (cSpk B (nI m)) nm (pfV B a (nI (p + n)))) side n w)), 128, gm_RF, im', lm) ∧ Off B im' := by
  have hm7 := iR_nm hR
  have hn8 := iR_nj hR
  intro w
  induction w with
  | zero =>
    intro n im hw ho hv
    refine ⟨im, ?_, ho⟩
    rw [LX11_praiseFor_98]
    have h9 : (9 : Int32) < nI (p + n) := nI_lt (a := 9) (by omega) (by omega)
    simp (decide := true) only [QX11_praiseFor, nI_add, h9, if_true, pfS]
  | succ w ih =>
    intro n im hw ho hv
    have h9 : ¬ (9 : Int32) < nI (p + n) := nI_nlt (a := 9) (by omega) (by decide)
    let im1 := gm_up im 69 7 (nI (p + n))
    have o1 : Off B im1 := ho.up rfl (by decide)
    have hv1 : vEq (im1 69) (upd (cV B a) 7 (nI (p + n))) := by
      show vEq (gm_up im 69 7 (nI (p + n)) 69) _
      rw [gu_upd]
      intro i h1 h2
      have := hv i h1 h2
      unfold upd at *
      by_cases e : i = 7
      · simp [e]
      · simp [e] at this ⊢; exact this
    obtain ⟨im2, h2, f2⟩ := C_entB hR o1 hv1 lm
    have o2 := o1.tr (f2.off fr19)
    have hbag : gL (cSpk B (nI m)) (fun b => ent B nj (dV B (B 22 75) b)) nm - ent B nj (cV B a) + ent B nj (upd (cV B a) 7 (nI (p + n))) = bag (vSu B nj (cSpk B (nI m)) nm (pfV B a (nI (p + n))) 255) (vNu (cSpk B (nI m)) nm (pfV B a (nI (p + n)))) := by
      rw [← ent_gL hn8 (fun b hb _ => pfV_pOk hR hr a _ hb)]
      rw [gL_one (fun b => ent B nj (pfV B a (nI (p + n)) b)) (fun b => ent B nj (dV B (B 22 75) b)) ha hf (fun i hi => by simp [pfV, hi])]
      rw [show ent B nj (dV B (B 22 75) a) = ent B nj (cV B a) from ent_eq (dV_cV B a) nj]
      simp [pfV]
    have hw1 := C_winner (vLanes hn8 (cSpk B (nI m)) hm7 (pfV B a (nI (p + n))) (B := B)) im2 lm .null
    rw [LX11_praiseFor_98]
    simp only [pfS]
    have e0 : gm_den 135 100 [.ref 0, .int (nI m), .int side, .int (nI a), .long (gL (cSpk B (nI m)) (fun b => ent B nj (dV B (B 22 75) b)) nm - ent B nj (cV B a)), .null, .int (nI p), .int (nI n)] [.int (nI p)] 128 gm_RF im lm = gm_cont 135 133 [.ref 0, .int (nI m), .int side, .int (nI a), .long (gL (cSpk B (nI m)) (fun b => ent B nj (dV B (B 22 75) b)) nm - ent B nj (cV B a)), .null, .int (nI p), .int (nI n)] [] 128 (some (some (.int (eO (vFall B nj (cSpk B (nI m)) nm (pfV B a (nI (p + n)))))), 128, gm_RF, im2, lm)) := by
      simp (decide := true) only [QX11_praiseFor, nI_add, h9, if_true, if_false]
      rw [show gm_up im 69 7 (nI (p + n)) = im1 from rfl, h2]
      simp only [QX11_praiseFor, gm_cont_l]
      rw [hbag, hw1]
      rfl
    rw [e0]
    by_cases hc : eO (vFall B nj (cSpk B (nI m)) nm (pfV B a (nI (p + n)))) = side
    · refine ⟨im2, ?_, o2⟩
      simp (decide := true) only [QX11_praiseFor, gm_cont_i, hc, if_true, if_false]
    · obtain ⟨im', h3, h4⟩ := ih (n + 1) im2 (by omega) o2 (by
        rw [f2 69 (by decide)]
        show vEq (upd (gm_up im 69 7 (nI (p + n)) 69) 7 0) _
        rw [gu_upd]
        refine vEq.tr ?_ hv
        intro i _ _
        unfold upd
        by_cases e : i = 7 <;> simp [e])
      refine ⟨im', ?_, h4⟩
      simp (decide := true) only [QX11_praiseFor, gm_cont_i, hc, if_true, if_false, nI_a1]
      exact h3
theorem M_pf_loop (hR : iRoll B l nm nk nj ns) (hr : rRel (B 22) (B 116) nm nk ns) {m a : Nat} (hm : m < nk) (ha : a < nm) (side : Int32) {p : Nat} (hp : p ≤ 9) (hpr : B 116 (35 + a) = nI p) (lm : gm_L) : ∀ (w n : Nat) (im : gm_I), p + n + w = 10 → Off B im → (∀ j, j < 80 → j ≠ 35 + a → im 117 j = B 116 j) → ∃ im', gm_den 262 42 [.ref 84, .int (nI m), .int side, .int (nI a), .int (nI n)] [] 128 gm_RF im lm = some (some (.int (pfS (fun n => vFall B nj (cSpk B (nI m)) nm (pfV B a (nI (p + n)))) side n w)), 128, gm_RF, im', lm) ∧ Off B im' := by
  have hm7 := iR_nm hR
  have hn8 := iR_nj hR
  have hk5 := iR_nk hR
  have ha7 : a < 7 := by omega
  intro w
  induction w with
  | zero =>
    intro n im hw ho h117
    refine ⟨im, ?_, ho⟩
    rw [LX12_praiseFor_42]
    have e35 : im 116 (35 + a) = nI p := by rw [ho.1 116 rfl]; exact hpr
    have h9 : (9 : Int32) < nI (p + n) := nI_lt (a := 9) (by omega) (by omega)
    simp (decide := true) only [QX12_praiseFor, ixr7 a ha7, e35, nI_add, h9, if_true, pfS]
  | succ w ih =>
    intro n im hw ho h117
    have e35 : im 116 (35 + a) = nI p := by rw [ho.1 116 rfl]; exact hpr
    have h9 : ¬ (9 : Int32) < nI (p + n) := nI_nlt (a := 9) (by omega) (by decide)
    let X := gm_up im 117 (35 + a) (nI (p + n))
    have oX : Off B X := ho.up rfl (by decide)
    have rX : ∀ j, j < 80 → j ≠ 35 + a → X 117 j = B 116 j := fun j hj hja => by show gm_up im 117 (35 + a) _ 117 j = _; rw [gu_nk hja]; exact h117 j hj hja
    have aX : X 117 (35 + a) = nI (p + n) := gu_eq
    have hok := rRel_ok (iR_ns hR) hr
    have okX : rOk (X 117) nm ns := by
      refine ⟨fun b hb => ?_, fun b hb => ?_⟩
      · rw [rX b (by omega) (by omega), rX (7 + b) (by omega) (by omega)]; exact hok.1 b hb
      · rw [rX (49 + b) (by omega) (by omega), rX (56 + b) (by omega) (by omega)]; exact hok.2 b hb
    obtain ⟨im1, h1, n1, -⟩ := M_fallsTo hR oX okX (nI m) 0 (by decide) lm
    have hF : mFall B X l nm nj (nI m) 0 = vFall B nj (cSpk B (nI m)) nm (pfV B a (nI (p + n))) := by
      apply mFall_v 0
      · intro b hb
        unfold mSpk cSpk
        rw [rX (21 + b) (by omega) (by omega), (rR_top hr hb).1]
      · intro b hb hf
        have hsp := spk_ne hk5 hr hm hb hf
        rw [slip0 0 rfl]
        -- with his praise as it is
        let Y := gm_up X 117 (35 + a) (B 116 (35 + a))
        have oY : Off B Y := oX.up rfl (by decide)
        have rY : ∀ j, j < 80 → Y 117 j = B 116 j := fun j hj => by
          show gm_up X 117 (35 + a) _ 117 j = _
          by_cases e : j = 35 + a
          · subst e; rw [gu_eq]
          · rw [gu_nk e]; exact rX j hj e
        have hY := mV_d0 hR oY hr rY hb hsp
        intro i i1 i2
        have hYi := hY i i1 i2
        have gY : ∀ j, j ≠ 35 + a → Y 117 j = X 117 j := fun j hj => gu_nk hj
        have eY : mV Y l b (Y 117 (28 + b)) 0 i = if i = 7 then Y 117 (35 + b) else mV X l b (X 117 (28 + b)) 0 i := by
          unfold mV
          rw [gY (28 + b) (by omega), gY (7 + b) (by omega), gY b (by omega), gY 75 (by omega), gY (49 + b) (by omega), gY (56 + b) (by omega), show Y 96 = X 96 from gu_row (by decide), show Y 93 = X 93 from gu_row (by decide)]
          by_cases e7 : i = 7
          · subst e7; simp
          · simp [e7]
        by_cases e7 : i = 7
        · subst e7
          have l1 : mV X l b (X 117 (28 + b)) 0 7 = X 117 (35 + b) := by simp [mV]
          rw [l1]
          unfold pfV
          by_cases eb : b = a
          · subst eb; rw [aX, if_pos rfl]; simp [upd]
          · rw [if_neg eb, rX (35 + b) (by omega) (by omega)]
            have := (rR_prs hr hb).1
            simp [dV, upd, cV, this]
        · rw [eY, if_neg e7] at hYi
          rw [hYi]
          unfold pfV
          by_cases eb : b = a
          · subst eb; rw [if_pos rfl, dV_cV B b i i1 i2]; simp [upd, e7]
          · rw [if_neg eb]
    rw [hF] at h1
    rw [show (nI 0 : Int32) = 0 from rfl] at h1
    have o1 := oX.tr n1.off
    have r1 : ∀ j, j < 80 → j ≠ 35 + a → im1 117 j = B 116 j := fun j hj hja => by rw [n1.r]; exact rX j hj hja
    rw [LX12_praiseFor_42]
    simp only [pfS]
    have e0 : gm_den 262 43 [.ref 84, .int (nI m), .int side, .int (nI a), .int (nI n)] [.ref 84] 128 gm_RF im lm = gm_cont 262 86 [.ref 84, .int (nI m), .int side, .int (nI a), .int (nI n)] [] 128 (some (some (.int (eO (vFall B nj (cSpk B (nI m)) nm (pfV B a (nI (p + n)))))), 128, gm_RF, im1, lm)) := by
      simp (decide := true) only [QX12_praiseFor, ixr7 a ha7, e35, nI_add, h9, if_true, if_false]
      rw [show gm_up im 117 (35 + a) (nI (p + n)) = X from rfl, h1]
    rw [e0]
    by_cases hc : eO (vFall B nj (cSpk B (nI m)) nm (pfV B a (nI (p + n)))) = side
    · refine ⟨im1, ?_, o1⟩
      simp (decide := true) only [QX12_praiseFor, gm_cont_i, hc, if_true, if_false]
    · obtain ⟨im', h3, h4⟩ := ih (n + 1) im1 (by omega) o1 r1
      refine ⟨im', ?_, h4⟩
      simp (decide := true) only [QX12_praiseFor, gm_cont_i, hc, if_true, if_false, nI_a1]
      exact h3
end
theorem A_praiseFor (m s a : Int32) : Agr 135 262 [.ref 0, .int m, .int s, .int a, .null, .null, .null, .null] [.ref 84, .int m, .int s, .int a, .null] := by
  refine agrQ ?_
  intro B lm l nm nk nj ns hI
  obtain ⟨hR, hr, -⟩ := hI
  have hm7 := iR_nm hR
  have hn8 := iR_nj hR
  have hk5 := iR_nk hR
  have hns := iR_ns hR
  have n1 : Value.category .null = 1 := rfl
  have bad : ∀ (b1 b2 b3 : Bool), okI nk m = b1 → okI ns s = b2 → okI nm a = b3 → (b1 && b2 && b3) = false → ∃ v : Int32, (∃ im1 lm1, gm_den 135 0 [.ref 0, .int m, .int s, .int a, .null, .null, .null, .null] [] 128 gm_RF B lm = some (some (.int v), 128, gm_RF, im1, lm1) ∧ Off B im1 ∧ LK lm lm1) ∧ ∀ (im : gm_I) (lm1 : gm_L), Off B im → LK lm lm1 → ∃ im1 lm2, gm_den 262 0 [.ref 84, .int m, .int s, .int a, .null] [] 128 gm_RF im lm1 = some (some (.int v), 128, gm_RF, im1, lm2) ∧ Off B im1 ∧ LK lm lm2 := by
    intro b1 b2 b3 h1 h2 h3 hb
    refine ⟨-1, ⟨B, lm, ?_, Off.rf B, LK.rf lm⟩, fun im lm1 ho hk => ⟨im, lm1, ?_, ho, hk⟩⟩
    · cases b1 <;> cases b2 <;> cases b3 <;> first | (exact absurd hb (by decide)) | simp (decide := true) only [QX11_praiseFor, Cg_mot hR (Off.rf B), Cg_sid hR (Off.rf B), Cg_man hR (Off.rf B), h1, h2, h3, b32_f, b32_t, gm_cont_i, if_true, if_false]
    · cases b1 <;> cases b2 <;> cases b3 <;> first | (exact absurd hb (by decide)) | simp (decide := true) only [QX12_praiseFor, M_isAsked hR ho, Mg_man hR ho, h1, h2, h3, Bool.and_self, Bool.and_false, Bool.false_and, b32_f, b32_t, gm_cont_i, if_true, if_false]
  cases hg : okI nk m with
  | false => exact bad false _ _ hg rfl rfl (by simp)
  | true =>
    cases hg2 : okI ns s with
    | false => exact bad true false _ hg hg2 rfl (by simp)
    | true =>
      cases hg3 : okI nm a with
      | false => exact bad true true false hg hg2 hg3 (by simp)
      | true =>
        obtain ⟨j, hj, rfl⟩ := okI_t (by omega) hg
        obtain ⟨q, hq, rfl⟩ := okI_t (by omega) hg3
        have hq7 : q < 7 := by omega
        have htc := (rR_top hr hq).1
        by_cases ht : B 116 (21 + q) = nI j
        · have hf : cSpk B (nI j) q = true := by simp [cSpk, htc, ht]
          obtain ⟨p, hp, hpr⟩ := (rR_prs hr hq).2
          obtain ⟨im1, lm1, h1, o1, d1, e1, f1⟩ := C_gatherD hR (Off.rf B) (nI j) lm
          let im2 := cTake im1 q
          have f2 : Fr [69] im1 im2 := cTake_fr im1 q
          have o2 : Off B im2 := o1.tr (f2.off (by decide))
          have hv2 : vEq (im2 69) (cV B q) := cTake_v o1 q
          have h3 := C_asItIs im2 lm1 (gc (cSpk B (nI j)) nm) (by rw [f2 71 (by decide)]; exact d1.1) (by have := gc_le (cSpk B (nI j)) nm; omega)
          have hsum : sL (lm1 73) (gc (cSpk B (nI j)) nm) = gL (cSpk B (nI j)) (fun b => ent B nj (dV B (B 22 75) b)) nm := by
            rw [← sL_wh]; exact sL_ext (fun i hi => e1 i hi)
          rw [hsum] at h3
          obtain ⟨im4, h4, f4⟩ := C_entB hR o2 hv2 lm1
          have o4 := o2.tr (f4.off fr19)
          have hv4 : vEq (im4 69) (cV B q) := by rw [f4 69 (by decide)]; exact hv2
          have e7 : im4 69 7 = nI p := by rw [hv4 7 (by decide) (by decide)]; simp [cV, (rR_prs hr hq).1, hpr]
          obtain ⟨im5, h5, o5⟩ := C_pf_loop hR hr hj hq hf s hp lm1 (10 - p) 0 im4 (by omega) o4 (hv4.up 7 0)
          have hts := C_take q im1 lm1 hq7
          refine ⟨pfS (fun n => vFall B nj (cSpk B (nI j)) nm (pfV B q (nI (p + n)))) s 0 (10 - p), ⟨im5, lm1, ?_, o5, f1.lk (by decide) (by decide)⟩, fun im lmx ho hk => ?_⟩
          · rw [← h5]
            simp (decide := true) only [QX11_praiseFor, Cg_mot hR (Off.rf B), Cg_sid hR (Off.rf B), Cg_man hR (Off.rf B), hg, hg2, hg3, b32_t, gm_cont_i, gm_cont_v, if_true, if_false, C_get q B lm hq7, htc, ht, dayB (Off.rf B), h1, hts]
            rw [show cTake im1 q = im2 from rfl, h3]
            simp only [QX11_praiseFor, gm_cont_l]
            rw [h4]
            simp only [QX11_praiseFor, gm_cont_l, gm_cat_i, n1, e7]
            rfl
          · obtain ⟨jm1, c1, p1, r1, -, -⟩ := M_copies hR ho lmx
            obtain ⟨jm2, q5, o6⟩ := M_pf_loop hR hr hj hq s hp hpr lmx (10 - p) 0 jm1 (by omega) p1 (fun j hj _ => r1 j hj)
            refine ⟨jm2, lmx, ?_, o6, hk⟩
            rw [← q5]
            simp (decide := true) only [QX12_praiseFor, M_isAsked hR ho, Mg_man hR ho, hg, hg2, hg3, Bool.and_self, b32_t, gm_cont_i, gm_cont_v, if_true, if_false, c1, ixr7 q hq7, r1 (21 + q) (show 21 + q < 80 by omega), ht, gm_cat_i, n1]
            rfl
        · refine ⟨-2, ⟨B, lm, ?_, Off.rf B, LK.rf lm⟩, fun im lm1 ho hk => ?_⟩
          · simp (decide := true) only [QX11_praiseFor, Cg_mot hR (Off.rf B), Cg_sid hR (Off.rf B), Cg_man hR (Off.rf B), hg, hg2, hg3, b32_t, gm_cont_i, if_true, if_false, C_get q B lm hq7, htc, ht]
          · obtain ⟨jm1, c1, p1, r1, -, -⟩ := M_copies hR ho lm1
            refine ⟨jm1, lm1, ?_, p1, hk⟩
            simp (decide := true) only [QX12_praiseFor, M_isAsked hR ho, Mg_man hR ho, hg, hg2, hg3, Bool.and_self, b32_t, gm_cont_i, gm_cont_v, if_true, if_false, c1, ixr7 q hq7, r1 (21 + q) (show 21 + q < 80 by omega), ht]
