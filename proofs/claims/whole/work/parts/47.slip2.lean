/-! questions: slipped (the reference), thinks -/
theorem b32_01 (b : Bool) : b32 b = 0 ∨ b32 b = 1 := by cases b <;> simp [b32]
theorem M_isSoC {B im : gm_I} {l nm nk nj ns : Nat} (hR : iRoll B l nm nk nj ns) (ho : Off B im) (hr : rRel (B 22) (B 116) nm nk ns) (h117 : ∀ j, j < 80 → im 117 j = B 116 j) {t : Nat} (ht : t ≤ 20) (htl : ∀ i, i < t → B 82 i = B 123 i ∧ B 83 i = B 124 i) {a : Nat} (ha : a < nm) (sl : Bool) {k : Nat} (hk : k ≤ t) (lm : gm_L) : ∃ im', gm_den 267 0 [.ref 84, .int (nI a), .int (b32 sl), .int (nI k), .null] [] 128 gm_RF im lm = some (some (.int (b32 (canB B nj k a sl))), 128, gm_RF, im', lm) ∧ mOff im im' := by
  have hm7 := iR_nm hR
  have n1 : Value.category .null = 1 := rfl
  have htn := top_neg (iR_nk hR) hr ha
  have e21 := h117 (21 + a) (by omega)
  by_cases hsp : B 116 (21 + a) = -2
  · have hspB : spB B a = false := by simp [spB, hsp]
    have hc : canB B nj k a sl = knw B (nI a) k := by simp [canB, hspB]
    have h1 := M_isSo_sil hR ho ht htl ha (by rw [e21]; exact htn.1.mpr hsp) (b32 sl) hk lm k 0 (by omega)
    refine ⟨im, ?_, mOff.rf im⟩
    rw [hc]
    simp only [QX12_isSo, gm_cat_i, n1]
    exact h1
  · have hspB : spB B a = true := by simp [spB, hsp]
    have hc : canB B nj k a sl = ast B (nI a) (nI (vS B nj (upd (cV B a) 6 (b32 sl)) 255)) k := by simp [canB, hspB]
    have hok := rOk_eq hm7 (rRel_ok (iR_ns hR) hr) h117
    obtain ⟨im', h1, h2⟩ := M_isSo_sp hR ho ht htl ha (by rw [e21]; exact fun hh => hsp (htn.1.mp hh)) hok.2 (b32 sl) (nI (vS B nj (upd (cV B a) 6 (b32 sl)) 255)) (by rw [vT_S _ _ _ (iR_nj hR), vS_eq (mV_cV1 hR ho hr h117 ha hsp (b32 sl))]) hk lm k 0 im (by omega) (mOff.rf im)
    refine ⟨im', ?_, h2⟩
    rw [hc]
    simp only [QX12_isSo, gm_cat_i, n1]
    exact h1
theorem ix2 (a : Nat) (b : Bool) (ha : a < 7) : gm_in (2 * nI a + b32 b) 14 = true ∧ (2 * nI a + b32 b).toNatClampNeg = 2 * a + (if b then 1 else 0) := by
  cases b with
  | true => exact ix_nat (2 * a + 1) (by rw [show (2 : Int32) = nI 2 from rfl, nI_mul]; exact nI_a1 _) (by omega) (by decide)
  | false => exact ix_nat (2 * a + 0) (by rw [show (2 : Int32) = nI 2 from rfl, nI_mul]; exact Int32.add_zero _) (by omega) (by decide)
section
variable {B : gm_I} {l nm nk nj ns : Nat}
theorem M_spAll_loop {im : gm_I} (hR : iRoll B l nm nk nj ns) (ho : Off B im) (hr : rRel (B 22) (B 116) nm nk ns) (h117 : ∀ j, j < 80 → im 117 j = B 116 j) (lm : gm_L) : ∀ (w a : Nat), a + w = nm → gm_den 268 4 [.ref 84, .int (nI (gM (spB B) a)), .int (nI a)] [] 128 gm_RF im lm = some (some (.int (nI (gM (spB B) nm))), 128, gm_RF, im, lm) := by
  intro w
  have hm7 := iR_nm hR
  have hl2 := iR_l hR
  induction w with
  | zero =>
    intro a hw
    have : a = nm := by omega
    subst this
    rw [LX12_speakingAll_4]
    simp only [QX12_speakingAll, iR_18 hR ho, i2 l hl2, iR_94 hR ho, nI_le (Nat.le_refl a) (show a < 2 ^ 31 by omega), if_true]
  | succ w ih =>
    intro a hw
    have hlt : ¬ nI nm ≤ nI a := nI_ge (by omega) (by omega)
    have h1 := ih (a + 1) (by omega)
    have htn := top_neg (iR_nk hR) hr (show a < nm by omega)
    have e21 := h117 (21 + a) (by omega)
    rw [LX12_speakingAll_4]
    by_cases hb : B 116 (21 + a) = -2
    · have e : gM (spB B) (a + 1) = gM (spB B) a := by simp [gM, spB, hb]
      rw [e] at h1
      simp (decide := true) only [QX12_speakingAll, iR_18 hR ho, i2 l hl2, iR_94 hR ho, hlt, if_false, if_true, ixr7 a (show a < 7 by omega), e21, htn.1.mpr hb, nI_a1]
      exact h1
    · have e : gM (spB B) (a + 1) = gM (spB B) a + 2 ^ a := by simp [gM, spB, hb]
      rw [e] at h1
      simp (decide := true) only [QX12_speakingAll, iR_18 hR ho, i2 l hl2, iR_94 hR ho, hlt, if_false, if_true, ixr7 a (show a < 7 by omega), e21, show ¬ B 116 (21 + a) < 0 from fun hh => hb (htn.1.mp hh)]
      rw [bs (show a < 8 by omega) (gM_lt _ a), nI_a1]
      exact h1
theorem M_spAll {im : gm_I} (hR : iRoll B l nm nk nj ns) (ho : Off B im) (hr : rRel (B 22) (B 116) nm nk ns) (h117 : ∀ j, j < 80 → im 117 j = B 116 j) (lm : gm_L) : gm_den 268 0 [.ref 84, .null, .null] [] 128 gm_RF im lm = some (some (.int (nI (gM (spB B) nm))), 128, gm_RF, im, lm) := by
  have h1 := M_spAll_loop hR ho hr h117 lm nm 0 (by omega)
  have n1 : Value.category .null = 1 := rfl
  simp only [QX12_speakingAll, gm_cat_i, n1]
  exact h1
theorem M_can_loop (hR : iRoll B l nm nk nj ns) (hr : rRel (B 22) (B 116) nm nk ns) {t : Nat} (ht : t ≤ 20) (htl : ∀ i, i < t → B 82 i = B 123 i ∧ B 83 i = B 124 i) {k : Nat} (hk : k ≤ t) (x2 x3 : Int32) (lm : gm_L) : ∀ (w a : Nat) (im : gm_I) (x5 x6 x7 : Value), a + w = nm → Off B im → (∀ j, j < 80 → im 117 j = B 116 j) → (∀ b, b < a → ∀ s : Bool, im 125 (2 * b + (if s then 1 else 0)) = b32 (canB B nj k b s)) → x5.category = 1 → x6.category = 1 → x7.category = 1 → ∃ im' x5', x5'.category = 1 ∧ gm_den 269 31 [.ref 84, .int (nI k), .int x2, .int x3, .int (nI a), x5, x6, x7] [] 128 gm_RF im lm = gm_den 269 87 [.ref 84, .int (nI k), .int x2, .int x3, .int (nI nm), x5', x6, x7] [] 128 gm_RF im' lm ∧ Off B im' ∧ (∀ b, b < nm → ∀ s : Bool, im' 125 (2 * b + (if s then 1 else 0)) = b32 (canB B nj k b s)) := by
  intro w
  have hm7 := iR_nm hR
  have hl2 := iR_l hR
  induction w with
  | zero =>
    intro a im x5 x6 x7 hw ho h117 hb c5 c6 c7
    have : a = nm := by omega
    subst this
    refine ⟨im, x5, c5, ?_, ho, hb⟩
    rw [LX12_slipped_31]
    simp only [QX12_slipped, iR_18 hR ho, i2 l hl2, iR_94 hR ho, nI_le (Nat.le_refl a) (show a < 2 ^ 31 by omega), if_true]
  | succ w ih =>
    intro a im x5 x6 x7 hw ho h117 hb c5 c6 c7
    have hlt : ¬ nI nm ≤ nI a := nI_ge (by omega) (by omega)
    have ha : a < nm := by omega
    obtain ⟨im1, h1, m1⟩ := M_isSoC hR ho hr h117 ht htl ha false hk lm
    let im2 := gm_up im1 125 (2 * a + 0) (b32 (canB B nj k a false))
    have o2 : Off B im2 := (ho.tr m1.off).up rfl (by decide)
    have r2 : ∀ j, j < 80 → im2 117 j = B 116 j := fun j hj => by show gm_up im1 125 _ _ 117 j = _; rw [gu_ne (by decide), m1.1 117 (by decide) (by decide) (by decide)]; exact h117 j hj
    obtain ⟨im3, h3, m3⟩ := M_isSoC hR o2 hr r2 ht htl ha true hk lm
    let im4 := gm_up im3 125 (2 * a + 1) (b32 (canB B nj k a true))
    have o4 : Off B im4 := (o2.tr m3.off).up rfl (by decide)
    have r4 : ∀ j, j < 80 → im4 117 j = B 116 j := fun j hj => by show gm_up im3 125 _ _ 117 j = _; rw [gu_ne (by decide), m3.1 117 (by decide) (by decide) (by decide)]; exact r2 j hj
    have e3 : im3 125 = im2 125 := m3.1 125 (by decide) (by decide) (by decide)
    have e1 : im1 125 = im 125 := m1.1 125 (by decide) (by decide) (by decide)
    obtain ⟨im', x5', c5', h5, h6, h7⟩ := ih (a + 1) im4 (.int 2) x6 x7 (by omega) o4 r4 (by
      intro b hba s
      show gm_up im3 125 (2 * a + 1) _ 125 _ = _
      by_cases e : b = a
      · subst e
        cases s with
        | true => rw [if_pos rfl, gu_eq]
        | false =>
          rw [if_neg (by decide), gu_nk (by omega), e3]
          show gm_up im1 125 (2 * b + 0) _ 125 (2 * b + 0) = _
          rw [gu_eq]
      · rw [gu_nk (by split <;> omega), e3]
        show gm_up im1 125 (2 * a + 0) _ 125 _ = _
        rw [gu_nk (by split <;> omega), e1]
        exact hb b (by omega) s) rfl c6 c7
    refine ⟨im', x5', c5', ?_, h6, h7⟩
    have i0 := ix2 a false (show a < 7 by omega)
    have i1 := ix2 a true (show a < 7 by omega)
    simp (decide := true) only [b32_f, b32_t, if_true, if_false] at i0 i1 h1 h3
    have q0 := b32_01 (canB B nj k a false)
    have q1 := b32_01 (canB B nj k a true)
    have l2 : ¬ (2 : Int32) ≤ 0 := by decide
    have l3 : ¬ (2 : Int32) ≤ 1 := by decide
    rw [← h5, LX12_slipped_31]
    simp (decide := true) only [QX12_slipped, iR_18 hR ho, i2 l hl2, iR_94 hR ho, hlt, if_false, if_true, gm_cat_i, c5, c6, c7]
    rw [LX12_slipped_48]
    simp (decide := true) only [QX12_slipped, h1, gm_cont_i, i0, q0, if_true, if_false, and_self]
    rw [LX12_slipped_48]
    rw [show gm_up im1 125 (2 * a + 0) (b32 (canB B nj k a false)) = im2 from rfl]
    simp (decide := true) only [QX12_slipped, show (0 + 1 : Int32) = 1 from rfl, h3, gm_cont_i, i1, q1, if_true, if_false, and_self]
    rw [LX12_slipped_48]
    simp (decide := true) only [QX12_slipped, show (1 + 1 : Int32) = 2 from rfl, if_true, nI_a1]
    rfl
theorem M_set_in (hR : iRoll B l nm nk nj ns) (im : gm_I) (ho : Off B im) {k : Nat} (hb : ∀ b, b < nm → ∀ s : Bool, im 125 (2 * b + (if s then 1 else 0)) = b32 (canB B nj k b s)) (x1 x2 x3 x4 : Int32) (s : Nat) (hs : s < 128) (bse : Bool) (lm : gm_L) : ∀ (w a : Nat), a + w = nm → gm_den 269 120 [.ref 84, .int x1, .int x2, .int x3, .int x4, .int (nI s), .int (b32 (bse && preR (fun a => canB B nj k a (s.testBit a)) a)), .int (nI a)] [] 128 gm_RF im lm = gm_den 269 172 [.ref 84, .int x1, .int x2, .int x3, .int x4, .int (nI s), .int (b32 (bse && preR (fun a => canB B nj k a (s.testBit a)) nm)), .int (nI nm)] [] 128 gm_RF im lm := by
  intro w
  have hm7 := iR_nm hR
  have hl2 := iR_l hR
  induction w with
  | zero =>
    intro a hw
    have : a = nm := by omega
    subst this
    rw [LX12_slipped_120]
    simp only [QX12_slipped, iR_18 hR ho, i2 l hl2, iR_94 hR ho, nI_le (Nat.le_refl a) (show a < 2 ^ 31 by omega), if_true]
  | succ w ih =>
    intro a hw
    have h1 := ih (a + 1) (by omega)
    have hlt : ¬ nI nm ≤ nI a := nI_ge (by omega) (by omega)
    have hix := ix2 a (s.testBit a) (show a < 7 by omega)
    have hv := hb a (by omega) (s.testBit a)
    rw [← h1, LX12_slipped_120]
    simp only [preR]
    cases hp : (bse && preR (fun a => canB B nj k a (s.testBit a)) a) with
    | false =>
      have e : (bse && (preR (fun a => canB B nj k a (s.testBit a)) a && canB B nj k a (s.testBit a))) = false := by
        rw [← Bool.and_assoc, hp]; rfl
      rw [e]
      simp (decide := true) only [QX12_slipped, iR_18 hR ho, i2 l hl2, iR_94 hR ho, hlt, if_false, if_true, b32_f, nI_a1]
    | true =>
      have e : (bse && (preR (fun a => canB B nj k a (s.testBit a)) a && canB B nj k a (s.testBit a))) = canB B nj k a (s.testBit a) := by
        rw [← Bool.and_assoc, hp]; rfl
      rw [e]
      cases hc : canB B nj k a (s.testBit a) with
      | true =>
        rw [hc] at hv
        simp (decide := true) only [QX12_slipped, iR_18 hR ho, i2 l hl2, iR_94 hR ho, hlt, if_false, if_true, b32_t, bitn (show s < 256 by omega) (show a < 8 by omega), hix, hv, nI_a1]
      | false =>
        rw [hc] at hv
        simp (decide := true) only [QX12_slipped, iR_18 hR ho, i2 l hl2, iR_94 hR ho, hlt, if_false, if_true, b32_t, b32_f, bitn (show s < 256 by omega) (show a < 8 by omega), hix, hv, nI_a1]
theorem M_set_loop (hR : iRoll B l nm nk nj ns) (im : gm_I) (ho : Off B im) {k : Nat} (hb : ∀ b, b < nm → ∀ s : Bool, im 125 (2 * b + (if s then 1 else 0)) = b32 (canB B nj k b s)) (x1 i : Int32) (lm : gm_L) : ∀ (w s fd : Nat) (x6 x7 : Value), s + w = 128 → fd ≤ s → x6.category = 1 → x7.category = 1 → gm_den 269 93 [.ref 84, .int x1, .int i, .int (nI (gM (spB B) nm)), .int (nI fd), .int (nI s), x6, x7] [] 128 gm_RF im lm = some (some (.int (srch (okR B nm nj k) (fun s => nI s) i fd s w)), 128, gm_RF, im, lm) := by
  have hm7 := iR_nm hR
  have hM := gM_128 (spB B) hm7
  intro w
  induction w with
  | zero =>
    intro s fd x6 x7 hw hf c6 c7
    have : s = 128 := by omega
    subst this
    rw [LX12_slipped_93]
    simp only [srch]
    by_cases hi : i = -1
    · simp (decide := true) only [QX12_slipped, if_true, if_false, hi]
    · simp (decide := true) only [QX12_slipped, if_true, if_false, hi]
  | succ w ih =>
    intro s fd x6 x7 hw hf c6 c7
    have hs : s < 128 := by omega
    have hlt : ¬ (128 : Int32) ≤ nI s := nI_ge (b := 128) hs (by decide)
    have hsub := subn hs hM
    have hin := M_set_in hR im ho hb x1 i (nI (gM (spB B) nm)) (nI fd) s hs (s &&& gM (spB B) nm == s) lm nm 0 (by omega)
    simp only [preR, Bool.and_true] at hin
    rw [LX12_slipped_93]
    simp only [srch]
    have e0 : gm_den 269 95 [.ref 84, .int x1, .int i, .int (nI (gM (spB B) nm)), .int (nI fd), .int (nI s), x6, x7] [.int (nI s)] 128 gm_RF im lm = gm_den 269 172 [.ref 84, .int x1, .int i, .int (nI (gM (spB B) nm)), .int (nI fd), .int (nI s), .int (b32 (okR B nm nj k s)), .int (nI nm)] [] 128 gm_RF im lm := by
      rw [show okR B nm nj k s = ((s &&& gM (spB B) nm == s) && preR (fun a => canB B nj k a (s.testBit a)) nm) from rfl, ← hin]
      cases hc : (s &&& gM (spB B) nm == s) with
      | true =>
        simp (decide := true) only [QX12_slipped, hlt, if_false, if_true, hsub.mpr hc, gm_cat_i, c6, c7, b32_t]
        rfl
      | false =>
        have hz : ¬ (nI s &&& (nI (gM (spB B) nm) ^^^ -1) = 0) := fun h => by rw [hsub.mp h] at hc; cases hc
        simp (decide := true) only [QX12_slipped, hlt, if_false, if_true, hz, gm_cat_i, c6, c7, b32_f]
        rfl
    rw [e0]
    cases hok : okR B nm nj k s with
    | true =>
      have ih1 := ih (s + 1) (fd + 1) (.int (b32 true)) (.int (nI nm)) (by omega) (by omega) rfl rfl
      by_cases hi : nI fd = i
      · simp (decide := true) only [QX12_slipped, b32_t, if_true, if_false, hi]
      · simp only [b32_t] at ih1
        simp (decide := true) only [QX12_slipped, b32_t, if_true, if_false, hi, nI_a1, ih1]
    | false =>
      have ih1 := ih (s + 1) fd (.int (b32 false)) (.int (nI nm)) (by omega) (by omega) rfl rfl
      simp only [b32_f] at ih1
      simp (decide := true) only [QX12_slipped, b32_f, if_true, if_false, nI_a1, ih1]
end
theorem A_slipped (k i : Int32) : Agr 140 269 [.ref 0, .int k, .int i, .null, .null, .null, .null, .null] [.ref 84, .int k, .int i, .null, .null, .null, .null, .null] := by
  refine agrQ ?_
  intro B lm l nm nk nj ns hI
  obtain ⟨hR, hr, -, -, ⟨t, ht, h11, h61, htl⟩, -⟩ := hI
  have hm7 := iR_nm hR
  have n1 : Value.category .null = 1 := rfl
  have hin : ∀ (im : gm_I) (lm1 : gm_L), gm_den 200 0 [.int k, .int 0, .int (nI t)] [] 128 gm_RF im lm1 = some (some (.int (b32 (okI (t + 1) k))), 128, gm_RF, im, lm1) := fun im lm1 => by
    have := Mg_in (n := t + 1) (by omega) k im lm1
    rw [show nI (t + 1) - 1 = nI t from nI_m1 (n := t + 1) (by omega)] at this
    exact this
  cases hg : okI (t + 1) k with
  | false =>
    refine ⟨-1, ⟨B, lm, ?_, Off.rf B, LK.rf lm⟩, fun im lm1 ho hk => ⟨im, lm1, ?_, ho, hk⟩⟩
    · rcases okI_f hg with h | ⟨h, h2⟩
      · simp (decide := true) only [QX11_slipped, h, if_true]
      · have h3 : nI t < k := Int32.lt_of_lt_of_le (nI_lt (Nat.lt_succ_self t) (by omega)) h2
        simp (decide := true) only [QX11_slipped, h, h11, h3, if_true, if_false]
    · simp (decide := true) only [QX12_slipped, ho.2 61 rfl, h61, hin, hg, b32_f, gm_cont_i, if_true, if_false]
  | true =>
    have hkt := okI_tt hg
    obtain ⟨q, hq, rfl⟩ := okI_t (by omega) hg
    have hqt : ¬ nI t < nI q := nI_nlt (by omega) (by omega)
    by_cases hi : i < -1
    · refine ⟨-1, ⟨B, lm, ?_, Off.rf B, LK.rf lm⟩, fun im lm1 ho hk => ⟨im, lm1, ?_, ho, hk⟩⟩
      · simp (decide := true) only [QX11_slipped, hkt.1, h11, hqt, Int32.not_le.mpr hi, if_true, if_false]
      · simp (decide := true) only [QX12_slipped, ho.2 61 rfl, h61, hin, hg, b32_t, gm_cont_i, if_true, if_false, Int32.not_le.mpr hi]
    · have hi2 := Int32.not_lt.mp hi
      obtain ⟨im1, h1, o1⟩ := C_slipped_loop hR hr ht h11 (show q ≤ t by omega) i lm nm 0 B .null .null (by omega) (Off.rf B) rfl rfl
      rw [← slip_same] at h1
      refine ⟨srch (okR B nm nj q) (fun s => nI s) i 0 0 128, ⟨im1, lm, ?_, o1, LK.rf lm⟩, fun im lm1 ho hk => ?_⟩
      · rw [← h1]
        simp (decide := true) only [QX11_slipped, hkt.1, h11, hqt, hi2, if_true, if_false, gm_cat_i, n1]
        rfl
      · obtain ⟨jm1, c1, p1, r1, -, -⟩ := M_copies hR ho lm1
        obtain ⟨jm2, x5', c5', h2, o2, b2⟩ := M_can_loop hR hr ht htl (show q ≤ t by omega) i (nI (gM (spB B) nm)) lm1 nm 0 jm1 .null .null .null (by omega) p1 r1 (fun b hb => by omega) rfl rfl rfl
        have h3 := M_set_loop hR jm2 o2 b2 (nI q) i lm1 128 0 0 .null .null (by omega) (Nat.le_refl _) rfl rfl
        refine ⟨jm2, lm1, ?_, o2, hk⟩
        rw [← h3]
        have e1 : gm_den 269 0 [.ref 84, .int (nI q), .int i, .null, .null, .null, .null, .null] [] 128 gm_RF im lm1 = gm_den 269 31 [.ref 84, .int (nI q), .int i, .int (nI (gM (spB B) nm)), .int (nI 0), .null, .null, .null] [] 128 gm_RF jm1 lm1 := by
          simp (decide := true) only [QX12_slipped, ho.2 61 rfl, h61, hin, hg, b32_t, gm_cont_i, gm_cont_v, if_true, if_false, hi2, c1, M_spAll hR p1 hr r1, gm_cat_i, n1]
          rfl
        rw [e1, h2]
        simp (decide := true) only [QX12_slipped, gm_cat_i, n1, c5']
        rfl
