/-! the program reads -/
def sbM (r m : Nat → Int32) (a : Nat) : Prop := r (10 * a + 0) = m (4 * a + 0) ∧ r (10 * a + 1) = -2 ∧ r (10 * a + 2) = m (4 * a + 3) ∧ r (10 * a + 3) = -2 ∧ r (10 * a + 4) = -2 ∧ r (10 * a + 5) = 0 ∧ r (10 * a + 6) = -2 ∧ r (10 * a + 7) = -2 ∧ r (10 * a + 8) = -1 ∧ r (10 * a + 9) = 0
theorem C_sbegin_a (im0 : gm_I) (lm : gm_L) : ∀ (w a : Nat) (im : gm_I), a + w = 7 → Fr [22] im0 im → (∀ b, b < a → sbM (im 22) (im0 12) b) → ∃ im', gm_den 78 2 [.ref 21, .ref 11, .int (nI a)] [] 128 gm_RF im lm = gm_den 78 77 [.ref 21, .ref 11, .int 0] [] 128 gm_RF im' lm ∧ Fr [22] im0 im' ∧ ∀ b, b < 7 → sbM (im' 22) (im0 12) b := by
  intro w
  induction w with
  | zero =>
    intro a im hw hF hb
    have : a = 7 := by omega
    subst this
    refine ⟨im, ?_, hF, hb⟩
    rw [LX8_begin_2]
    simp (decide := true) only [QX8_begin, if_true]
  | succ w ih =>
    intro a im hw hF hb
    have ha : a < 7 := by omega
    have hlt : ¬ (7 : Int32) ≤ nI a := nI_ge (b := 7) (by omega) (by decide)
    have t0 : ∀ im : gm_I, gm_den 59 0 [.ref 11, .int (nI a), .int 0] [] 128 gm_RF im lm = some (some (.int (im 12 (4 * a + 0))), 128, gm_RF, im, lm) := fun im => C_toldN a 0 ha (by decide) im lm
    have t3 : ∀ im : gm_I, gm_den 59 0 [.ref 11, .int (nI a), .int 3] [] 128 gm_RF im lm = some (some (.int (im 12 (4 * a + 3))), 128, gm_RF, im, lm) := fun im => C_toldN a 3 ha (by decide) im lm
    let i1 := gm_up im 22 (10 * a + 0) (im 12 (4 * a + 0))
    let i2 := gm_up i1 22 (10 * a + 1) (-2)
    let i3 := gm_up i2 22 (10 * a + 2) (i2 12 (4 * a + 3))
    let i4 := gm_up i3 22 (10 * a + 5) 0
    let i5 := gm_up i4 22 (10 * a + 6) (-2)
    let i6 := gm_up i5 22 (10 * a + 9) 0
    have hF6 : Fr [22] im (cHush i6 a) := ((((((((((Fr.rf [22] im).up (by simp)).up (by simp)).up (by simp)).up (by simp)).up (by simp)).up (by simp)).up (by simp)).up (by simp)).up (by simp)).up (by simp)
    have hrow : ∀ j, cHush i6 a 22 j = if j = 10 * a + 8 then -1 else if j = 10 * a + 7 then -2 else if j = 10 * a + 4 then -2 else if j = 10 * a + 3 then -2 else if j = 10 * a + 9 then 0 else if j = 10 * a + 6 then -2 else if j = 10 * a + 5 then 0 else if j = 10 * a + 2 then im 12 (4 * a + 3) else if j = 10 * a + 1 then -2 else if j = 10 * a + 0 then im 12 (4 * a + 0) else im 22 j := fun j => rfl
    obtain ⟨im', h1, h2⟩ := ih (a + 1) (cHush i6 a) (by omega) (hF.tr hF6) (fun b hb2 => by
      have e12 : im 12 = im0 12 := hF 12 (by decide)
      by_cases eb : b = a
      · subst eb
        unfold sbM
        simp only [hrow, e12]
        refine ⟨?_, ?_, ?_, ?_, ?_, ?_, ?_, ?_, ?_, ?_⟩ <;> simp
      · have := hb b (by omega)
        unfold sbM at this ⊢
        have hj : ∀ j, j < 10 → cHush i6 a 22 (10 * b + j) = im 22 (10 * b + j) := fun j hj => by
          rw [hrow, if_neg (by omega), if_neg (by omega), if_neg (by omega), if_neg (by omega), if_neg (by omega), if_neg (by omega), if_neg (by omega), if_neg (by omega), if_neg (by omega), if_neg (by omega)]
        rw [hj 0 (by decide), hj 1 (by decide), hj 2 (by decide), hj 3 (by decide), hj 4 (by decide), hj 5 (by decide), hj 6 (by decide), hj 7 (by decide), hj 8 (by decide), hj 9 (by decide)]
        exact this)
    refine ⟨im', ?_, h2⟩
    rw [← h1, LX8_begin_2]
    simp (decide := true) only [QX8_begin, hlt, if_false, t0, t3, gm_cont_i, gm_cont_v, C_set a _ _ lm ha, C_hush a _ lm ha, nI_a1]
    rfl
theorem C_sbegin_b (im0 : gm_I) (lm : gm_L) : ∀ (w m : Nat) (im : gm_I), m + w = 5 → Fr [22] im0 im → (∀ j, j < 70 → im 22 j = im0 22 j) → (∀ k, k < m → im 22 (70 + k) = -2) → ∃ im', gm_den 78 77 [.ref 21, .ref 11, .int (nI m)] [] 128 gm_RF im lm = some (none, 128, gm_RF, im', lm) ∧ Fr [22] im0 im' ∧ (∀ j, j < 70 → im' 22 j = im0 22 j) ∧ (∀ k, k < 5 → im' 22 (70 + k) = -2) ∧ im' 22 75 = 0 ∧ im' 22 76 = 0 := by
  intro w
  induction w with
  | zero =>
    intro m im hw hF h70 hk
    have : m = 5 := by omega
    subst this
    have i75 : gm_in 75 77 = true ∧ (75 : Int32).toNatClampNeg = 75 := by decide
    have i76 : gm_in 76 77 = true ∧ (76 : Int32).toNatClampNeg = 76 := by decide
    refine ⟨gm_up (gm_up im 22 75 0) 22 76 0, ?_, (hF.up (by simp)).up (by simp), fun j hj => ?_, fun k hk2 => ?_, ?_, gu_eq⟩
    · rw [LX8_begin_77]
      simp (decide := true) only [QX8_begin, if_true, i75, i76]
    · rw [gu_nk (by omega), gu_nk (by omega)]; exact h70 j hj
    · rw [gu_nk (by omega), gu_nk (by omega)]; exact hk k hk2
    · rw [gu_nk (by decide), gu_eq]
  | succ w ih =>
    intro m im hw hF h70 hk
    have hlt : ¬ (5 : Int32) ≤ nI m := nI_ge (b := 5) (by omega) (by decide)
    obtain ⟨im', h1, h2⟩ := ih (m + 1) (gm_up im 22 (70 + m) (-2)) (by omega) (hF.up (by simp)) (fun j hj => by rw [gu_nk (by omega)]; exact h70 j hj) (fun k hk2 => by
      by_cases ek : k = m
      · subst ek; exact gu_eq
      · rw [gu_nk (by omega)]; exact hk k (by omega))
    refine ⟨im', ?_, h2⟩
    rw [← h1, LX8_begin_77]
    simp (decide := true) only [QX8_begin, hlt, if_false, (ix70 m (by omega)).1, (ix70 m (by omega)).2, if_true, nI_a1]
def sbR (im : gm_I) : Prop := (∀ b, b < 7 → sbM (im 22) (im 12) b) ∧ (∀ k, k < 5 → im 22 (70 + k) = -2) ∧ im 22 75 = 0 ∧ im 22 76 = 0
theorem C_sbegin (im : gm_I) (lm : gm_L) : ∃ im', gm_den 78 0 [.ref 21, .ref 11, .null] [] 128 gm_RF im lm = some (none, 128, gm_RF, im', lm) ∧ Fr [22] im im' ∧ sbR im' := by
  obtain ⟨i1, h1, f1, b1⟩ := C_sbegin_a im lm 7 0 im (by decide) (Fr.rf _ _) (fun b hb => absurd hb (Nat.not_lt_zero _))
  obtain ⟨i2, h2, f2, b2, b3, b4⟩ := C_sbegin_b i1 lm 5 0 i1 (by decide) (Fr.rf _ _) (fun _ _ => rfl) (fun b hb => absurd hb (Nat.not_lt_zero _))
  refine ⟨i2, ?_, f1.tr f2, fun b hb => ?_, b3, b4⟩
  · refine Eq.trans ?_ (h1.trans h2)
    simp (decide := true) only [QX8_begin]
    rfl
  · have := b1 b hb
    rw [f2 12 (by decide), f1 12 (by decide)]
    unfold sbM at this ⊢
    rw [b2 _ (by omega), b2 _ (by omega), b2 _ (by omega), b2 _ (by omega), b2 _ (by omega), b2 _ (by omega), b2 _ (by omega), b2 _ (by omega), b2 _ (by omega), b2 _ (by omega)]
    exact this
theorem C_fill {K V P : Nat → Nat} {N : Nat} {im : gm_I} {lm : gm_L} (hT : tokR im lm K V P N) (h4 : N ≤ 400) (hK : ∀ t, K t < 148) (hV2 : ∀ t, K t = 2 → V t ≤ 9999) (hok : okT K g0 N) (hw : (gst K g0 N).w = 0) : ∃ im' z', gm_den 57 0 [.ref 11, .ref 7, .null, .null] [] 128 gm_RF im lm = some (none, 128, gm_RF, im', lm) ∧ Fr [11, 12, 13, 14, 15, 16, 17, 18, 20] im im' ∧ cFi im' V (foA K V N) ∧ cLws im' K V N (foA K V N).la z' ∧ z' ≤ 406 := by
  have n1 : Value.category .null = 1 := rfl
  have hF0 : Fr [11, 12, 13, 14, 15, 16, 17, 18, 20] im (gm_up (gm_up (gm_up (gm_up (gm_up im 11 0 2) 11 1 0) 11 2 0) 11 3 0) 11 4 0) := ((((Fr.up1 (by decide)).up (by decide)).up (by decide)).up (by decide)).up (by decide)
  obtain ⟨J, j1, j2, j3⟩ := C_lbegin (gm_up (gm_up (gm_up (gm_up (gm_up im 11 0 2) 11 1 0) 11 2 0) 11 3 0) 11 4 0) lm
  have hC : cFi J V (foA K V 0) := by
    unfold cFi
    rw [j3 11 (by decide)]
    refine ⟨⟨rfl, rfl, rfl, rfl, rfl⟩, fun a i h => absurd h (Nat.not_lt_zero _), fun a i h => absurd h (Nat.not_lt_zero _), fun a h => absurd h (Nat.not_lt_zero _)⟩
  have hL : cLws J K V N (foA K V 0).la 6 := by
    obtain ⟨a0, a1, a2, a3, a4, a5, a6, a7, a8, a9, a10, a11, a12, a13, a14, a15⟩ := j2
    refine ⟨⟨Nat.le_refl _, a0⟩, ⟨a4, a5, a6, a7, a8, a9, a10, a11, a12, a13, a14, a15⟩, fun y h1 h2 => absurd h1 (by omega), fun k hk => Or.inl ⟨rfl, ?_⟩⟩
    rcases (by omega : k = 0 ∨ k = 1 ∨ k = 2) with rfl | rfl | rfl
    · exact a1
    · exact a2
    · exact a3
  obtain ⟨im', z', i1, i2, i3⟩ := C_fill_loop (im0 := J) (by
    unfold tokR
    rw [j3 7 (by decide), j3 8 (by decide), j3 10 (by decide), gu_row (by decide), gu_row (by decide), gu_row (by decide), gu_row (by decide), gu_row (by decide), gu_row (by decide), gu_row (by decide), gu_row (by decide), gu_row (by decide), gu_row (by decide), gu_row (by decide), gu_row (by decide), gu_row (by decide), gu_row (by decide), gu_row (by decide)]
    exact hT) h4 hK hV2 hok hw N 0 J .null 6 0 (by omega) (Fr.rf _ _) hC hL (by decide) (Nat.zero_le _) (fun y _ h => absurd h (Nat.not_lt_zero _)) rfl
  refine ⟨im', z', ?_, (hF0.tr (j3.mo (by decide))).tr i2, i3⟩
  rw [← i1]
  simp (decide := true) only [QX5_fill, j1, gm_cont_v, n1, if_true]
  rfl
/-- what reading leaves in the program -/
theorem C_read {tb : Nat → Nat} {n : Nat} {im : gm_I} {lm : gm_L} (hT : TX im tb n) (hn : im 0 1 = nI n) (hst : stR im) (hw : ∀ w, w < 20 → lm 4 w = Int64.ofNat (pkL 32 (cwd w))) : ∃ im' lm' F pl T, gm_den 111 0 [.ref 0, .null] [] 128 gm_RF im lm = some (some (.int (nI F)), 128, gm_RF, im', lm') ∧ rdO tb n F pl T ∧ F ≤ 5 ∧ im' 0 2 = pl ∧ im' 0 1 = 0 ∧ Fr [3, 9] lm lm' ∧ Fr [0, 2, 3, 5, 6, 7, 8, 10, 11, 12, 13, 14, 15, 16, 17, 18, 20, 22, 23] im im' ∧ (¬ F = 0 → Fr [0, 2, 3, 5, 6, 7, 8, 10] im im' ∧ im' 0 11 = im 0 11) ∧ (F = 0 → im' 0 11 = 0 ∧ cFi im' (tkv tb n) (foA (tkk tb n) (tkv tb n) T) ∧ (∃ z, z ≤ 406 ∧ cLws im' (tkk tb n) (tkv tb n) T (foA (tkk tb n) (tkv tb n) T).la z) ∧ sbR im' ∧ im' 23 2 = im 23 2 ∧ im' 23 3 = 0 ∧ im' 23 4 = 0) := by
  obtain ⟨im1, lm1, F, pl, T, h1, h2, h5, hF, hL, hp, hT1⟩ := C_reader hT hst hw
  have n1 : Value.category .null = 1 := rfl
  have hFu : Fr [0, 2, 3, 5, 6, 7, 8, 10] im (gm_up (gm_up im1 0 2 pl) 0 1 0) := ((hF.mo (K := [0, 2, 3, 5, 6, 7, 8, 10]) (by decide)).up (by decide)).up (by decide)
  have e11 : gm_up (gm_up im1 0 2 pl) 0 1 0 0 11 = im 0 11 := by rw [gu_nk (by decide), gu_nk (by decide), hF 0 (by decide)]
  by_cases h0 : F = 0
  · subst h0
    obtain ⟨hok, hgE, hwk, hfr, -⟩ := rdO_0 h2
    have htok := hT1 rfl
    obtain ⟨J, z, j1, j2, j3, j4, j5⟩ := C_fill (im := gm_up (gm_up im1 0 2 pl) 0 1 0) (by
      unfold tokR
      rw [gu_row (by decide), gu_row (by decide), gu_row (by decide), gu_row (by decide), gu_row (by decide), gu_row (by decide)]
      exact htok) hok.1 (tkk_lt tb n) (fun t h => tkv_int h) hok hgE.1
    obtain ⟨M, m1, m2, m3⟩ := C_sbegin J lm1
    have hclr : gm_den 45 0 [.ref 23] [] 128 gm_RF M lm1 = some (none, 128, gm_RF, gm_up (gm_up M 23 3 0) 23 4 0, lm1) := by
      simp (decide := true) only [QX3_clear]
    have z0 : nI 0 = 0 := rfl
    rw [z0] at h1
    refine ⟨gm_up (gm_up (gm_up M 23 3 0) 23 4 0) 0 11 0, lm1, 0, pl, T, ?_, h2, by decide, ?_, ?_, hL, ?_, fun h => absurd rfl h, fun _ => ⟨gu_eq, ?_, ⟨z, j5, ?_⟩, ?_, ?_, ?_, ?_⟩⟩
    · simp (decide := true) only [QX11_read, hn, h1, gm_cont_i, hp, n1, if_true, if_false, j1, gm_cont_v, m1, hclr, not_true_eq_false]
      rfl
    · rw [gu_nk (by decide), gu_ne (by decide), gu_ne (by decide), m2 0 (by decide), j2 0 (by decide), gu_nk (by decide)]; exact gu_eq
    · rw [gu_nk (by decide), gu_ne (by decide), gu_ne (by decide), m2 0 (by decide), j2 0 (by decide)]; exact gu_eq
    · exact (((((hFu.mo (K := [0, 2, 3, 5, 6, 7, 8, 10, 11, 12, 13, 14, 15, 16, 17, 18, 20, 22, 23]) (by decide)).tr (j2.mo (by decide))).tr (m2.mo (by decide))).up (by decide)).up (by decide)).up (by decide)
    · refine cFi_fr j3 ?_ ?_ ?_ ?_ rfl rfl rfl rfl rfl rfl rfl rfl
      · rw [gu_row (by decide), gu_row (by decide), gu_row (by decide)]; exact m2 11 (by decide)
      · rw [gu_row (by decide), gu_row (by decide), gu_row (by decide)]; exact m2 12 (by decide)
      · rw [gu_row (by decide), gu_row (by decide), gu_row (by decide)]; exact m2 13 (by decide)
      · rw [gu_row (by decide), gu_row (by decide), gu_row (by decide)]; exact m2 14 (by decide)
    · refine cLws_fr j4 ?_ ?_ ?_ ?_ rfl
      · rw [gu_row (by decide), gu_row (by decide), gu_row (by decide)]; exact m2 15 (by decide)
      · rw [gu_row (by decide), gu_row (by decide), gu_row (by decide)]; exact m2 16 (by decide)
      · rw [gu_row (by decide), gu_row (by decide), gu_row (by decide)]; exact m2 17 (by decide)
      · rw [gu_row (by decide), gu_row (by decide), gu_row (by decide)]; exact m2 18 (by decide)
    · unfold sbR
      rw [gu_row (by decide), gu_row (by decide), gu_row (by decide), gu_row (by decide), gu_row (by decide), gu_row (by decide)]
      exact m3
    · rw [gu_ne (by decide), gu_nk (by decide), gu_nk (by decide), m2 23 (by decide), j2 23 (by decide), gu_ne (by decide), gu_ne (by decide), hF 23 (by decide)]
    · rw [gu_ne (by decide), gu_nk (by decide)]; exact gu_eq
    · rw [gu_ne (by decide)]; exact gu_eq
  · have e0 : ¬ nI F = 0 := nI_ne0 (by omega) (by omega)
    refine ⟨gm_up (gm_up im1 0 2 pl) 0 1 0, lm1, F, pl, T, ?_, h2, h5, ?_, gu_eq, hL, hFu.mo (by decide), fun _ => ⟨hFu, e11⟩, fun h => absurd h h0⟩
    · simp (decide := true) only [QX11_read, hn, h1, gm_cont_i, hp, n1, if_true, if_false, e0, not_false_eq_true]
    · rw [gu_nk (by decide)]; exact gu_eq
