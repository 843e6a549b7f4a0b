/-! questions: count; what was told -/
theorem fell_neg {c r : Nat → Int32} {nm nk ns : Nat} (hr : rRel c r nm nk ns) {m : Nat} (hm : m < nk) : (r (70 + m) < 0 ↔ r (70 + m) = -2) ∧ (0 ≤ r (70 + m) ↔ ¬ r (70 + m) = -2) := by
  apply neg_iff (ns := 3) (by omega)
  exact (rR_fell hr hm).2
theorem left_neg {c r : Nat → Int32} {nm nk ns : Nat} (hns : ns = 2 ∨ ns = 3) (hr : rRel c r nm nk ns) {a : Nat} (ha : a < nm) : (r (7 + a) < 0 ↔ r (7 + a) = -2) ∧ (0 ≤ r (7 + a) ↔ ¬ r (7 + a) = -2) := neg_iff (by omega) (rR_left hr ha).2
theorem A_count (w : Int32) : Agr 144 273 [.ref 0, .int w] [.ref 84, .int w, .null, .null] := by
  refine agrQ ?_
  intro B lm l nm nk nj ns hI
  obtain ⟨hR, hr, hpa, hsl, hto, hta, hpl, -⟩ := hI
  have hm7 := iR_nm hR
  have hl2 := iR_l hR
  have hns := iR_ns hR
  have n1 : Value.category .null = 1 := rfl
  have i80 : (gm_in 75 80 = true ∧ (75 : Int32).toNatClampNeg = 75) ∧ (gm_in 76 80 = true ∧ (76 : Int32).toNatClampNeg = 76) := by decide
  have i3b : (gm_in 0 3 = true ∧ (0 : Int32).toNatClampNeg = 0) ∧ (gm_in 1 3 = true ∧ (1 : Int32).toNatClampNeg = 1) ∧ (gm_in 2 3 = true ∧ (2 : Int32).toNatClampNeg = 2) := by decide
  rcases rngS 14 (by decide) w with ⟨k, hk, rfl⟩ | hw
  · have : k = 0 ∨ k = 1 ∨ k = 2 ∨ k = 3 ∨ k = 4 ∨ k = 5 ∨ k = 6 ∨ k = 7 ∨ k = 8 ∨ k = 9 ∨ k = 10 ∨ k = 11 ∨ k = 12 ∨ k = 13 ∨ k = 14 := by omega
    rcases this with rfl | rfl | rfl | rfl | rfl | rfl | rfl | rfl | rfl | rfl | rfl | rfl | rfl | rfl | rfl
    · rw [show (nI 0 : Int32) = 0 from rfl]
      refine ⟨nI ns, ⟨B, lm, ?_, Off.rf B, LK.rf lm⟩, fun im lm1 ho hk => ⟨im, lm1, ?_, ho, hk⟩⟩
      · simp (decide := true) only [QX11_count, gm_cont_i, iR_110 hR (Off.rf B)]
      · simp (decide := true) only [QX12_count, gm_cat_i, n1, if_true, iR_18 hR ho, i2 l hl2, iR_93 hR ho]
    · rw [show (nI 1 : Int32) = 1 from rfl]
      refine ⟨nI nm, ⟨B, lm, ?_, Off.rf B, LK.rf lm⟩, fun im lm1 ho hk => ⟨im, lm1, ?_, ho, hk⟩⟩
      · simp (decide := true) only [QX11_count, gm_cont_i, iR_112 hR (Off.rf B)]
      · simp (decide := true) only [QX12_count, gm_cat_i, n1, if_true, iR_18 hR ho, i2 l hl2, iR_94 hR ho]
    · rw [show (nI 2 : Int32) = 2 from rfl]
      refine ⟨nI nk, ⟨B, lm, ?_, Off.rf B, LK.rf lm⟩, fun im lm1 ho hk => ⟨im, lm1, ?_, ho, hk⟩⟩
      · simp (decide := true) only [QX11_count, gm_cont_i, iR_113 hR (Off.rf B)]
      · simp (decide := true) only [QX12_count, gm_cat_i, n1, if_true, iR_18 hR ho, i2 l hl2, iR_99 hR ho]
    · rw [show (nI 3 : Int32) = 3 from rfl]
      refine ⟨nI nj, ⟨B, lm, ?_, Off.rf B, LK.rf lm⟩, fun im lm1 ho hk => ⟨im, lm1, ?_, ho, hk⟩⟩
      · simp (decide := true) only [QX11_count, gm_cont_i, iR_114 hR (Off.rf B)]
      · simp (decide := true) only [QX12_count, gm_cat_i, n1, if_true, iR_18 hR ho, i2 l hl2, iR_101 hR ho]
    · rw [show (nI 4 : Int32) = 4 from rfl]
      refine ⟨B 116 75, ⟨B, lm, ?_, Off.rf B, LK.rf lm⟩, fun im lm1 ho hk => ⟨im, lm1, ?_, ho, hk⟩⟩
      · simp (decide := true) only [QX11_count, gm_cont_i, C_day, rR_day hr]
      · simp (decide := true) only [QX12_count, gm_cat_i, n1, if_true, iR_18 hR ho, i2 l hl2, i80, ho.1 116 rfl]
    · rw [show (nI 5 : Int32) = 5 from rfl]
      have e : gM (fun m => !decide (B 22 (70 + m) = -2)) nk = gM (fun m => decide (0 ≤ B 116 (70 + m))) nk := gM_ext (fun m hm => by
        rw [(rR_fell hr hm).1]
        by_cases h : B 116 (70 + m) = -2
        · have := (fell_neg hr hm).2
          simp [h]
        · have := (fell_neg hr hm).2.mpr h
          simp [h, this])
      refine ⟨nI (gM (fun m => decide (0 ≤ B 116 (70 + m))) nk), ⟨B, lm, ?_, Off.rf B, LK.rf lm⟩, fun im lm1 ho hk => ⟨im, lm1, ?_, ho, hk⟩⟩
      · simp (decide := true) only [QX11_count, gm_cont_i, C_fallenMotions hR (Off.rf B), e]
      · simp (decide := true) only [QX12_count, gm_cat_i, n1, if_true]
        exact M_cnt126 hR ho 5 lm1 nk 0 (by omega)
    · rw [show (nI 6 : Int32) = 6 from rfl]
      have e : gM (fun a => !decide (B 22 (10 * a + 1) = -2)) nm = gM (fun a => decide (0 ≤ B 116 (7 + a))) nm := gM_ext (fun a ha => by
        rw [(rR_left hr ha).1]
        by_cases h : B 116 (7 + a) = -2
        · simp [h]
        · have := (left_neg hns hr ha).2.mpr h
          simp [h, this])
      refine ⟨nI (gM (fun a => decide (0 ≤ B 116 (7 + a))) nm), ⟨B, lm, ?_, Off.rf B, LK.rf lm⟩, fun im lm1 ho hk => ⟨im, lm1, ?_, ho, hk⟩⟩
      · simp (decide := true) only [QX11_count, gm_cont_i, C_swornMen hR (Off.rf B), e]
      · simp (decide := true) only [QX12_count, gm_cat_i, n1, if_true]
        exact M_cnt167 hR ho 6 7 (by decide) lm1 nm 0 (by omega)
    · rw [show (nI 7 : Int32) = 7 from rfl]
      refine ⟨B 116 76, ⟨B, lm, ?_, Off.rf B, LK.rf lm⟩, fun im lm1 ho hk => ⟨im, lm1, ?_, ho, hk⟩⟩
      · simp (decide := true) only [QX11_count, gm_cont_i, C_paid, rR_paid hr]
      · simp (decide := true) only [QX12_count, gm_cat_i, n1, if_true, iR_18 hR ho, i2 l hl2, i80, ho.1 116 rfl]
    · rw [show (nI 8 : Int32) = 8 from rfl]
      obtain ⟨t, a1, a2, a3, -⟩ := hta
      refine ⟨nI t, ⟨B, lm, ?_, Off.rf B, LK.rf lm⟩, fun im lm1 ho hk => ⟨im, lm1, ?_, ho, hk⟩⟩
      · simp (decide := true) only [QX11_count, gm_cont_i, a2]
      · simp (decide := true) only [QX12_count, gm_cat_i, n1, if_true, iR_18 hR ho, i2 l hl2, ho.2 2 rfl, a3]
    · rw [show (nI 9 : Int32) = 9 from rfl]
      obtain ⟨nx, sz, a1, a2, a3, a4, a5, -⟩ := hpa
      refine ⟨nI sz, ⟨B, lm, ?_, Off.rf B, LK.rf lm⟩, fun im lm1 ho hk => ⟨im, lm1, ?_, ho, hk⟩⟩
      · simp (decide := true) only [QX11_count, gm_cont_i, a4]
      · simp (decide := true) only [QX12_count, gm_cat_i, n1, if_true, iR_18 hR ho, i2 l hl2, ho.2 54 rfl, a5]
    · rw [show (nI 10 : Int32) = 10 from rfl]
      obtain ⟨t, a1, a2, a3, -⟩ := hto
      refine ⟨nI t, ⟨B, lm, ?_, Off.rf B, LK.rf lm⟩, fun im lm1 ho hk => ⟨im, lm1, ?_, ho, hk⟩⟩
      · simp (decide := true) only [QX11_count, gm_cont_i, a2]
      · simp (decide := true) only [QX12_count, gm_cat_i, n1, if_true, iR_18 hR ho, i2 l hl2, ho.2 61 rfl, a3]
    · rw [show (nI 11 : Int32) = 11 from rfl]
      obtain ⟨hd, a1, a2, a3⟩ := hsl
      refine ⟨nI (pc hd), ⟨B, lm, ?_, Off.rf B, LK.rf lm⟩, fun im lm1 ho hk => ⟨im, lm1, ?_, ho, hk⟩⟩
      · simp (decide := true) only [QX11_count, gm_cont_i, a2, J_bitCount (show hd < 256 by omega)]
      · have b0 := (a3 0 (by decide)).1
        have b1 := (a3 1 (by decide)).1
        have b2 := (a3 2 (by decide)).1
        rw [← ho.1 126 rfl] at b0 b1 b2
        have : hd = 0 ∨ hd = 1 ∨ hd = 2 ∨ hd = 3 ∨ hd = 4 ∨ hd = 5 ∨ hd = 6 ∨ hd = 7 := by omega
        rcases this with rfl | rfl | rfl | rfl | rfl | rfl | rfl | rfl <;> simp (decide := true) only [QX12_count, gm_cat_i, n1, if_true, if_false, i3b, b0, b1, b2, b32] <;> rfl
    · rw [show (nI 12 : Int32) = 12 from rfl]
      have hov := C_overAll hR (Off.rf B) 2 (by decide) lm
      rw [show (nI 2 : Int32) = 2 from rfl] at hov
      refine ⟨iS (fun a => B 116 (14 + a)) nm, ⟨B, lm, ?_, Off.rf B, LK.rf lm⟩, fun im lm1 ho hk => ⟨im, lm1, ?_, ho, hk⟩⟩
      · rw [← iS_ext (fun a ha => rR_coin hr ha)]
        simp (decide := true) only [QX11_count, gm_cont_i, hov]
      · simp (decide := true) only [QX12_count, gm_cat_i, n1, if_true]
        exact M_cnt287 hR ho 12 14 (by decide) lm1 nm 0 (by omega)
    · rw [show (nI 13 : Int32) = 13 from rfl]
      have e : gM (fun a => !decide (B 22 (10 * a + 6) = -2)) nm = gM (fun a => decide (0 ≤ B 116 (42 + a))) nm := gM_ext (fun a ha => by
        rw [(rR_kept hr ha).1]
        by_cases h : B 116 (42 + a) = -2
        · simp [h]
        · have := (kept_neg hr ha).2.mpr h
          simp [h, this])
      refine ⟨nI (gM (fun a => decide (0 ≤ B 116 (42 + a))) nm), ⟨B, lm, ?_, Off.rf B, LK.rf lm⟩, fun im lm1 ho hk => ⟨im, lm1, ?_, ho, hk⟩⟩
      · simp (decide := true) only [QX11_count, gm_cont_i, C_menWithSpeech hR (Off.rf B), e]
      · simp (decide := true) only [QX12_count, gm_cat_i, n1, if_true]
        exact M_cnt167 hR ho 13 42 (by decide) lm1 nm 0 (by omega)
    · rw [show (nI 14 : Int32) = 14 from rfl]
      have hov := C_overAll hR (Off.rf B) 9 (by decide) lm
      rw [show (nI 9 : Int32) = 9 from rfl] at hov
      refine ⟨iS (fun a => B 116 (63 + a)) nm, ⟨B, lm, ?_, Off.rf B, LK.rf lm⟩, fun im lm1 ho hk => ⟨im, lm1, ?_, ho, hk⟩⟩
      · rw [← iS_ext (fun a ha => rR_slips hr ha)]
        simp (decide := true) only [QX11_count, gm_cont_i, hov]
      · simp (decide := true) only [QX12_count, gm_cat_i, n1, if_true]
        exact M_cnt287 hR ho 14 63 (by decide) lm1 nm 0 (by omega)
  · have hw : w.toInt < 0 ∨ 14 < w.toInt := hw
    refine ⟨-1, ⟨B, lm, ?_, Off.rf B, LK.rf lm⟩, fun im lm1 ho hk => ⟨im, lm1, ?_, ho, hk⟩⟩
    · simp (decide := true) only [QX11_count, hw]
    · simp (decide := true) only [QX12_count, gm_cat_i, n1, if_true, hw]
/-- what was told of one -/
def knw (B : gm_I) (a : Int32) (k : Nat) : Bool := allR (fun t => !decide (B 82 t = a)) 0 k
def ast (B : gm_I) (a : Int32) (tot : Int32) (k : Nat) : Bool := allR (fun t => !(decide (B 82 t = a) && !decide (B 83 t = tot))) 0 k
theorem i20 (i : Nat) (hi : i < 20) : gm_in (nI i) 20 = true ∧ (nI i).toNatClampNeg = i := ⟨gm_in_nI hi (by decide), nI_clamp (by omega)⟩
section
variable {B im : gm_I}
theorem C_isKnown_loop (ho : Off B im) {t : Nat} (ht : t ≤ 20) (h11 : B 0 11 = nI t) (a : Int32) {k : Nat} (hk : k ≤ t) (lm : gm_L) : ∀ (w i : Nat), i + w = k → gm_den 158 2 [.ref 0, .int a, .int (nI k), .int (nI i)] [] 128 gm_RF im lm = some (some (.int (b32 (!allR (fun t => !decide (B 82 t = a)) i w))), 128, gm_RF, im, lm) := by
  have e11 : im 0 11 = nI t := by rw [ho.1 0 rfl]; exact h11
  intro w
  induction w with
  | zero =>
    intro i hw
    have : i = k := by omega
    subst this
    rw [LX11_isKnown_2]
    simp only [QX11_isKnown, nI_le (Nat.le_refl i) (show i < 2 ^ 31 by omega), if_true, allR]
    rfl
  | succ w ih =>
    intro i hw
    have h1 := ih (i + 1) (by omega)
    have hlt : ¬ nI k ≤ nI i := nI_ge (by omega) (by omega)
    have hlt2 : ¬ nI t ≤ nI i := nI_ge (by omega) (by omega)
    have e82 : im 82 i = B 82 i := by rw [ho.1 82 rfl]
    rw [LX11_isKnown_2]
    simp only [allR]
    by_cases hb : B 82 i = a
    · simp (decide := true) only [QX11_isKnown, hlt, hlt2, if_false, if_true, e11, i20 i (show i < 20 by omega), e82, hb]
      simp [b32]
    · simp (decide := true) only [QX11_isKnown, hlt, hlt2, if_false, if_true, e11, i20 i (show i < 20 by omega), e82, hb, nI_a1]
      simpa using h1
theorem C_isKnown (ho : Off B im) {t : Nat} (ht : t ≤ 20) (h11 : B 0 11 = nI t) (a : Int32) {k : Nat} (hk : k ≤ t) (lm : gm_L) : gm_den 158 0 [.ref 0, .int a, .int (nI k), .null] [] 128 gm_RF im lm = some (some (.int (b32 (!knw B a k))), 128, gm_RF, im, lm) := by
  have h := C_isKnown_loop ho ht h11 a hk lm k 0 (by omega)
  have n1 : Value.category .null = 1 := rfl
  simp only [QX11_isKnown, gm_cat_i, n1]
  exact h
theorem C_isAsTold_loop (ho : Off B im) {t : Nat} (ht : t ≤ 20) (h11 : B 0 11 = nI t) (a tot : Int32) {k : Nat} (hk : k ≤ t) (lm : gm_L) : ∀ (w i : Nat), i + w = k → gm_den 159 3 [.ref 0, .int a, .int (nI k), .int tot, .int (nI i)] [] 128 gm_RF im lm = some (some (.int (b32 (allR (fun t => !(decide (B 82 t = a) && !decide (B 83 t = tot))) i w))), 128, gm_RF, im, lm) := by
  have e11 : im 0 11 = nI t := by rw [ho.1 0 rfl]; exact h11
  intro w
  induction w with
  | zero =>
    intro i hw
    have : i = k := by omega
    subst this
    rw [LX11_isAsTold_3]
    simp only [QX11_isAsTold, nI_le (Nat.le_refl i) (show i < 2 ^ 31 by omega), if_true, allR]
    rfl
  | succ w ih =>
    intro i hw
    have h1 := ih (i + 1) (by omega)
    have hlt : ¬ nI k ≤ nI i := nI_ge (by omega) (by omega)
    have hlt2 : ¬ nI t ≤ nI i := nI_ge (by omega) (by omega)
    have e82 : im 82 i = B 82 i := by rw [ho.1 82 rfl]
    have e83 : im 83 i = B 83 i := by rw [ho.1 83 rfl]
    rw [LX11_isAsTold_3]
    simp only [allR]
    by_cases hb : B 82 i = a
    · by_cases hc : B 83 i = tot
      · simp (decide := true) only [QX11_isAsTold, hlt, hlt2, if_false, if_true, e11, i20 i (show i < 20 by omega), e82, e83, hb, hc, nI_a1]
        simpa using h1
      · simp (decide := true) only [QX11_isAsTold, hlt, hlt2, if_false, if_true, e11, i20 i (show i < 20 by omega), e82, e83, hb, hc]
        simp [b32]
    · simp (decide := true) only [QX11_isAsTold, hlt, hlt2, if_false, if_true, e11, i20 i (show i < 20 by omega), e82, hb, nI_a1]
      simpa using h1
theorem C_isAsTold (ho : Off B im) {t : Nat} (ht : t ≤ 20) (h11 : B 0 11 = nI t) (a tot : Int32) {k : Nat} (hk : k ≤ t) (lm : gm_L) : gm_den 159 0 [.ref 0, .int a, .int (nI k), .int tot, .null] [] 128 gm_RF im lm = some (some (.int (b32 (ast B a tot k))), 128, gm_RF, im, lm) := by
  have h := C_isAsTold_loop ho ht h11 a tot hk lm k 0 (by omega)
  have n1 : Value.category .null = 1 := rfl
  simp only [QX11_isAsTold, gm_cat_i, n1]
  exact h
end
/-- what is told is so, in the reference: silent, or with a sum -/
theorem M_isSo_sil {B im : gm_I} {l nm nk nj ns : Nat} (hR : iRoll B l nm nk nj ns) (ho : Off B im) {t : Nat} (ht : t ≤ 20) (htl : ∀ i, i < t → B 82 i = B 123 i ∧ B 83 i = B 124 i) {a : Nat} (ha : a < nm) (hs : im 117 (21 + a) < 0) (sl : Int32) {k : Nat} (hk : k ≤ t) (lm : gm_L) : ∀ (w i : Nat), i + w = k → gm_den 267 3 [.ref 84, .int (nI a), .int sl, .int (nI k), .int (nI i)] [] 128 gm_RF im lm = some (some (.int (b32 (allR (fun t => !decide (B 82 t = nI a)) i w))), 128, gm_RF, im, lm) := by
  have hm7 := iR_nm hR
  intro w
  induction w with
  | zero =>
    intro i hw
    have : i = k := by omega
    subst this
    rw [LX12_isSo_3]
    simp only [QX12_isSo, nI_le (Nat.le_refl i) (show i < 2 ^ 31 by omega), if_true, allR]
    rfl
  | succ w ih =>
    intro i hw
    have h1 := ih (i + 1) (by omega)
    have hlt : ¬ nI k ≤ nI i := nI_ge (by omega) (by omega)
    have e82 : im 123 i = B 82 i := by rw [ho.1 123 rfl]; exact (htl i (by omega)).1.symm
    rw [LX12_isSo_3]
    simp only [allR]
    by_cases hb : B 82 i = nI a
    · simp (decide := true) only [QX12_isSo, hlt, if_false, if_true, i20 i (show i < 20 by omega), e82, hb, ixr7 a (show a < 7 by omega), hs]
      simp [b32]
    · simp (decide := true) only [QX12_isSo, hlt, if_false, if_true, i20 i (show i < 20 by omega), e82, hb, nI_a1]
      simpa using h1
theorem M_isSo_sp {B im0 : gm_I} {l nm nk nj ns : Nat} (hR : iRoll B l nm nk nj ns) (ho0 : Off B im0) {t : Nat} (ht : t ≤ 20) (htl : ∀ i, i < t → B 82 i = B 123 i ∧ B 83 i = B 124 i) {a : Nat} (ha : a < nm) (hs : ¬ im0 117 (21 + a) < 0) (hold : rOld (im0 117) nm) (sl : Int32) (tot : Int32) (htot : vT B nj (mV im0 l a (im0 117 (28 + a)) sl) = tot) {k : Nat} (hk : k ≤ t) (lm : gm_L) : ∀ (w i : Nat) (im : gm_I), i + w = k → mOff im0 im → ∃ im', gm_den 267 3 [.ref 84, .int (nI a), .int sl, .int (nI k), .int (nI i)] [] 128 gm_RF im lm = some (some (.int (b32 (allR (fun t => !(decide (B 82 t = nI a) && !decide (B 83 t = tot))) i w))), 128, gm_RF, im', lm) ∧ mOff im0 im' := by
  have hm7 := iR_nm hR
  intro w
  induction w with
  | zero =>
    intro i im hw hm
    have : i = k := by omega
    subst this
    refine ⟨im, ?_, hm⟩
    rw [LX12_isSo_3]
    simp only [QX12_isSo, nI_le (Nat.le_refl i) (show i < 2 ^ 31 by omega), if_true, allR]
    rfl
  | succ w ih =>
    intro i im hw hm
    have ho := ho0.tr hm.off
    have hlt : ¬ nI k ≤ nI i := nI_ge (by omega) (by omega)
    have e82 : im 123 i = B 82 i := by rw [ho.1 123 rfl]; exact (htl i (by omega)).1.symm
    have e117 : im 117 = im0 117 := hm.1 117 (by decide) (by decide) (by decide)
    rw [LX12_isSo_3]
    simp only [allR]
    by_cases hb : B 82 i = nI a
    · obtain ⟨im1, h1, f1⟩ := M_sumNow hR ho (by rw [e117]; exact hold) a sl lm ha
      rw [e117, mV_off hm, htot] at h1
      have e83 : im1 124 i = B 83 i := by rw [(ho.tr f1.off).1 124 rfl]; exact (htl i (by omega)).2.symm
      have hs' : ¬ im 117 (21 + a) < 0 := by rw [e117]; exact hs
      by_cases hc : B 83 i = tot
      · obtain ⟨im2, h2, f2⟩ := ih (i + 1) im1 (by omega) (hm.tr f1)
        refine ⟨im2, ?_, f2⟩
        have hc' : (tot = B 83 i) := hc.symm
        simp (decide := true) only [QX12_isSo, hlt, if_false, if_true, i20 i (show i < 20 by omega), e82, hb, ixr7 a (show a < 7 by omega), hs', h1, gm_cont_i, e83, hc, nI_a1]
        simpa using h2
      · refine ⟨im1, ?_, hm.tr f1⟩
        have hc' : ¬ (tot = B 83 i) := fun h => hc h.symm
        simp (decide := true) only [QX12_isSo, hlt, if_false, if_true, i20 i (show i < 20 by omega), e82, hb, ixr7 a (show a < 7 by omega), hs', h1, gm_cont_i, e83, hc, hc']
        simp [b32]
    · obtain ⟨im2, h2, f2⟩ := ih (i + 1) im (by omega) hm
      refine ⟨im2, ?_, f2⟩
      simp (decide := true) only [QX12_isSo, hlt, if_false, if_true, i20 i (show i < 20 by omega), e82, hb, nI_a1]
      simpa using h2
