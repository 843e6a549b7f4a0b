/-! the roll is filled -/
theorem C_lbegin (im : gm_I) (lm : gm_L) : ∃ im', gm_den 37 0 [.ref 15] [] 128 gm_RF im lm = some (none, 128, gm_RF, im', lm) ∧ lawsB im' ∧ Fr [15, 16, 17, 18] im im' := by
  let a0 := gm_up (gm_up im 15 5 0) 18 0 0
  let a1 := adM a0 0 1 0
  let a2 := adM a1 1 2 0
  let a3 := gm_up a2 18 1 (nI 2)
  let a4 := adM a3 2 1 5
  let a5 := adM a4 3 2 0
  let a6 := gm_up a5 18 2 (nI 4)
  let a7 := adM a6 4 0 0
  let a8 := adM a7 5 2 0
  have s1 := C_addStep (im := a0) (z := 0) rfl (by decide) 1 0 lm
  have s2 := C_addStep (im := a1) (z := 1) rfl (by decide) 2 0 lm
  have s3 := C_addStep (im := a3) (z := 2) rfl (by decide) 1 5 lm
  have s4 := C_addStep (im := a4) (z := 3) rfl (by decide) 2 0 lm
  have s5 := C_addStep (im := a6) (z := 4) rfl (by decide) 0 0 lm
  have s6 := C_addStep (im := a7) (z := 5) rfl (by decide) 2 0 lm
  refine ⟨a8, ?_, ⟨rfl, rfl, rfl, rfl, rfl, rfl, rfl, rfl, rfl, rfl, rfl, rfl, rfl, rfl, rfl, rfl⟩, ?_⟩
  · have z0 : gm_up im 15 5 0 15 5 = 0 := gu_eq
    have i30 : gm_in 0 3 = true ∧ (0 : Int32).toNatClampNeg = 0 := by decide
    have i31 : gm_in 1 3 = true ∧ (1 : Int32).toNatClampNeg = 1 := by decide
    have i32 : gm_in 2 3 = true ∧ (2 : Int32).toNatClampNeg = 2 := by decide
    simp (decide := true) only [QX2_begin, z0, i30, if_true]
    rw [show gm_up (gm_up im 15 5 0) 18 0 0 = a0 from rfl, s1]
    simp (decide := true) only [QX2_begin, gm_cont_v]
    refine (congrArg _ s2).trans ?_
    simp (decide := true) only [QX2_begin, gm_cont_v, i31, if_true]
    refine (congrArg _ s3).trans ?_
    simp (decide := true) only [QX2_begin, gm_cont_v]
    refine (congrArg _ s4).trans ?_
    simp (decide := true) only [QX2_begin, gm_cont_v, i32, if_true]
    refine (congrArg _ s5).trans ?_
    simp (decide := true) only [QX2_begin, gm_cont_v]
    refine (congrArg _ s6).trans ?_
    simp (decide := true) only [QX2_begin, gm_cont_v]
    rfl
  · intro q hq
    simp only [List.mem_cons, List.not_mem_nil, or_false, not_or] at hq
    obtain ⟨h1, h2, h3, h4⟩ := hq
    funext j
    show adM _ _ _ _ q j = _
    simp only [a7, a6, a5, a4, a3, a2, a1, a0, adM, gm_up, h1, h2, h3, h4, if_false]
/-- a law is told to its end -/
theorem lawE {K V : Nat → Nat} {N : Nat} (hK : ∀ t, K t < 148) (hV2 : ∀ t, K t = 2 → V t ≤ 9999) (hok : okT K g0 N) (hw : (gst K g0 N).w = 0) {t k : Nat} (ht : t < N) (h0 : (gst K g0 t).w = 0) (hk : K t = 133 + k) (hk3 : k < 3) : (gst K g0 (t + 2)).w = 3 ∧ (gst K g0 (t + 2)).sc = 0 ∧ (gst K g0 (t + 2)).op = 0 ∧ K (t + 1) = 61 ∧ ∃ e, t + 2 ≤ e ∧ e < N ∧ K e = 59 ∧ ∀ y, t ≤ y → y < e → ¬ K y = 59 := by
  have g1 : (gst K g0 (t + 1)).w = 2 := by
    show (gn (gst K g0 t) (K t)).w = 2
    unfold gn
    rw [if_pos h0, if_pos (by omega)]; rfl
  have h1 : t + 1 < N := okT_s hok hw (by omega) (by omega)
  have hf := (hok.2 (t + 1) h1).2
  have hk1 : K (t + 1) = 61 := by
    unfold gf at hf
    rw [if_neg (by omega), if_neg (by omega), if_pos g1] at hf
    apply Classical.byContradiction
    intro e
    rw [if_neg e] at hf
    cases hf
  have g2 : gst K g0 (t + 2) = (GS.mk 3 (gst K g0 (t + 1)).nm (gst K g0 (t + 1)).it 0 0 0 (gst K g0 (t + 1)).tm) := by
    show gn (gst K g0 (t + 1)) (K (t + 1)) = _
    unfold gn
    rw [if_neg (by omega), if_neg (by omega), if_pos g1]
  have w3 : (gst K g0 (t + 2)).w = 3 := by rw [g2]; rfl
  have s0 : (gst K g0 (t + 2)).sc = 0 := by rw [g2]; rfl
  have o0 : (gst K g0 (t + 2)).op = 0 := by rw [g2]; rfl
  refine ⟨w3, s0, o0, hk1, ?_⟩
  have key : ∀ d x, t + 2 + x + d = N → (∀ y, y < x → ¬ K (t + 2 + y) = 59) → ∃ e, t + 2 ≤ e ∧ e < N ∧ K e = 59 ∧ ∀ y, t ≤ y → y < e → ¬ K y = 59 := by
    intro d
    induction d with
    | zero =>
      intro x hx hne
      have := (law_go (V := V) hK hV2 w3 s0 o0 x (okT_le hok (by omega)) hne).1.1
      rw [show t + 2 + x = N by omega] at this
      omega
    | succ d ih =>
      intro x hx hne
      by_cases e : K (t + 2 + x) = 59
      · refine ⟨t + 2 + x, by omega, by omega, e, fun y h1 h2 => ?_⟩
        by_cases y0 : y = t
        · rw [y0]; omega
        · by_cases y1 : y = t + 1
          · rw [y1]; omega
          · have := hne (y - (t + 2)) (by omega)
            rw [show t + 2 + (y - (t + 2)) = y by omega] at this
            exact this
      · exact ih (x + 1) (by omega) (fun y hy => by
          by_cases yx : y = x
          · rw [yx]; exact e
          · exact hne y (by omega))
  have h2 : t + 2 < N := okT_s hok hw (by omega) (by omega)
  exact key (N - (t + 2)) 0 (by omega) (fun y hy => absurd hy (Nat.not_lt_zero _))
section
variable {K V P : Nat → Nat} {N : Nat}
theorem C_takeL {im : gm_I} {lm : gm_L} (hT : tokR im lm K V P N) (h4 : N ≤ 400) (hK : ∀ t, K t < 148) (hV2 : ∀ t, K t = 2 → V t ≤ 9999) (hok : okT K g0 N) {a e : Nat} (hae : a ≤ e) (he : e < N) (hke : K e = 59) (hne : ∀ y, a ≤ y → y < e → ¬ K y = 59) (g3 : (gst K g0 a).w = 3) (gs0 : (gst K g0 a).sc = 0) (go : (gst K g0 a).op = 0) {st : Nat} (hst : st ≤ a + 4) (h15 : im 15 5 = nI st) {k : Nat} (hk : k < 3) : ∃ im', gm_den 38 0 [.ref 15, .int (nI k), .ref 7, .int (nI a), .null, .null, .null] [] 128 gm_RF im lm = some (none, 128, gm_RF, im', lm) ∧ im' 18 k = nI st ∧ (∀ j, j ≠ k → im' 18 j = im 18 j) ∧ im' 15 5 = nI (st + (lwR K V a (e - a + 1)).sn) ∧ cReg im' (lwR K V a (e - a + 1)) st ∧ Fr [15, 16, 17, 18, 20] im im' ∧ ∀ y, y < st → im' 16 y = im 16 y ∧ im' 17 y = im 17 y := by
  have n1 : Value.category .null = 1 := rfl
  have c1 : gm_in (nI k) 3 = true := gm_in_nI hk (by decide)
  have c2 : (nI k).toNatClampNeg = k := nI_clamp (by omega)
  have hM5 : gm_up (gm_up im 18 k (nI st)) 15 6 0 15 5 = nI st := by rw [gu_nk (by decide), gu_ne (by decide)]; exact h15
  have hL : cLR (gm_up (gm_up im 18 k (nI st)) 15 6 0) st (lwR K V a 0) := ⟨hM5, gu_eq, fun i hi => absurd hi (Nat.not_lt_zero _), fun i hi => absurd hi (Nat.not_lt_zero _)⟩
  have hT' : tokR (gm_up (gm_up im 18 k (nI st)) 15 6 0) lm K V P N := by
    unfold tokR
    rw [gu_row (by decide), gu_row (by decide), gu_row (by decide), gu_row (by decide), gu_row (by decide), gu_row (by decide)]
    exact hT
  obtain ⟨im', h1, h2, h3, h5⟩ := C_take_loop h4 hK hV2 hok he hke hne g3 gs0 go hst (nI k) (nI a) (e - a) 0 _ 0 .null (by omega) hT' hL (fun y hy => absurd hy (Nat.not_lt_zero _)) (fun h => by
    have : (gst K g0 a).sc = 3 := h
    omega) rfl
  have hF := h5.1
  refine ⟨im', ?_, ?_, fun j hj => ?_, h2.1, fun x hx => ?_, ?_, fun y hy => ?_⟩
  · rw [← h1]
    simp (decide := true) only [QX2_take, h15, c1, c2, n1, if_true]
    rfl
  · rw [hF 18 (by decide), gu_ne (by decide)]; exact gu_eq
  · rw [hF 18 (by decide), gu_ne (by decide), gu_nk hj]
  · obtain ⟨q1, q2⟩ := h2.2.2.2 x hx
    refine ⟨q1, ?_⟩
    rcases q2 with ⟨a1, a2⟩ | q2
    · exact absurd (h3 x hx a1 a2).1 (by decide)
    · exact q2
  · have : Fr [15, 16, 17, 18, 20] im (gm_up (gm_up im 18 k (nI st)) 15 6 0) := (Fr.up1 (by decide)).up (by decide)
    exact this.tr (hF.mo (by decide))
  · have := h5.2 y hy
    rw [this.1, this.2, gu_ne (by decide), gu_ne (by decide), gu_ne (by decide), gu_ne (by decide)]
    exact ⟨rfl, rfl⟩
/-- a man's numbers -/
theorem C_tman_loop {im0 : gm_I} {lm : gm_L} {t nm : Nat} (hT : tokR im0 lm K V P N) (h4 : N ≤ 400) (hV2 : ∀ i, i < 4 → V (t + 2 + i) ≤ 9999) (ht : t + 5 < N) (hnm : nm < 7) (h11 : im0 11 2 = nI nm) : ∀ (w i : Nat) (im : gm_I), i + w = 4 → Fr [12] im0 im → (∀ x, x < i → im 12 (4 * nm + x) = nI (V (t + 2 + x))) → (∀ y, y < 4 * nm → im 12 y = im0 12 y) → ∃ im', gm_den 58 52 [.ref 11, .int 1, .ref 7, .int (nI (t + 1)), .int (nI i)] [] 128 gm_RF im lm = some (none, 128, gm_RF, im', lm) ∧ Fr [11, 12] im0 im' ∧ im' 11 2 = nI (nm + 1) ∧ (∀ k, k ≠ 2 → im' 11 k = im0 11 k) ∧ (∀ x, x < 4 → im' 12 (4 * nm + x) = nI (V (t + 2 + x))) ∧ ∀ y, y < 4 * nm → im' 12 y = im0 12 y := by
  intro w
  induction w with
  | zero =>
    intro i im hi hF h1 h2
    have : i = 4 := by omega
    subst this
    have e1 : im 11 2 = nI nm := by rw [hF 11 (by decide)]; exact h11
    refine ⟨gm_up im 11 2 (nI (nm + 1)), ?_, (hF.mo (K := [11, 12]) (by decide)).up (by decide), gu_eq, fun k hk => ?_, fun x hx => ?_, fun y hy => ?_⟩
    · rw [LX5_takeTell_52]
      simp (decide := true) only [QX5_takeTell, if_true, e1, nI_a1]
    · rw [gu_nk hk, hF 11 (by decide)]
    · rw [gu_ne (by decide)]; exact h1 x hx
    · rw [gu_ne (by decide)]; exact h2 y hy
  | succ w ih =>
    intro i im hi hF h1 h2
    have c1 : ¬ (4 : Int32) ≤ nI i := nI_ge (b := 4) (by omega) (by decide)
    have e1 : im 11 2 = nI nm := by rw [hF 11 (by decide)]; exact h11
    have hT' : tokR im lm K V P N := by
      unfold tokR
      rw [hF 7 (by decide), hF 8 (by decide), hF 10 (by decide)]
      exact hT
    have hv := C_valueAt hT' h4 (x := t + 2 + i) (by omega)
    have hvi : (Int64.ofNat (V (t + 2 + i))).toInt32 = nI (V (t + 2 + i)) := i64_i32 (by have := hV2 i (by omega); omega)
    have e2 : nI nm * 4 + nI i = nI (4 * nm + i) := by rw [show (4 : Int32) = nI 4 from rfl, nI_mul, nI_add, Nat.mul_comm]
    have e3 : gm_in (nI (4 * nm + i)) 28 = true := gm_in_nI (by omega) (by decide)
    have e4 : (nI (4 * nm + i)).toNatClampNeg = 4 * nm + i := nI_clamp (by omega)
    have e5 : nI (t + 1 + 1) + nI i = nI (t + 2 + i) := nI_add _ _
    obtain ⟨im', i1, i2⟩ := ih (i + 1) (gm_up im 12 (4 * nm + i) (nI (V (t + 2 + i)))) (by omega) (hF.up (by decide)) (fun x hx => by
      by_cases ex : x = i
      · subst ex; exact gu_eq
      · rw [gu_nk (by omega)]; exact h1 x (by omega)) (fun y hy => by rw [gu_nk (by omega)]; exact h2 y hy)
    refine ⟨im', ?_, i2⟩
    rw [← i1, LX5_takeTell_52]
    simp (decide := true) only [QX5_takeTell, c1, if_true, if_false, e1, e2, e3, e4, e5, hv, hvi, gm_cont_l, nI_a1]
theorem C_tmot_loop {im0 : gm_I} {lm : gm_L} {t nk : Nat} (hT : tokR im0 lm K V P N) (h4 : N ≤ 400) (hV2 : ∀ i, i < 3 → V (t + 2 + i) ≤ 9999) (ht : t + 4 < N) (hnk : nk < 5) (h11 : im0 11 3 = nI nk) : ∀ (w i : Nat) (im : gm_I), i + w = 3 → Fr [13] im0 im → (∀ x, x < i → im 13 (3 * nk + x) = nI (V (t + 2 + x))) → (∀ y, y < 3 * nk → im 13 y = im0 13 y) → ∃ im', gm_den 58 118 [.ref 11, .int 2, .ref 7, .int (nI (t + 1)), .int (nI i)] [] 128 gm_RF im lm = some (none, 128, gm_RF, im', lm) ∧ Fr [11, 13] im0 im' ∧ im' 11 3 = nI (nk + 1) ∧ (∀ k, k ≠ 3 → im' 11 k = im0 11 k) ∧ (∀ x, x < 3 → im' 13 (3 * nk + x) = nI (V (t + 2 + x))) ∧ ∀ y, y < 3 * nk → im' 13 y = im0 13 y := by
  intro w
  induction w with
  | zero =>
    intro i im hi hF h1 h2
    have : i = 3 := by omega
    subst this
    have e1 : im 11 3 = nI nk := by rw [hF 11 (by decide)]; exact h11
    refine ⟨gm_up im 11 3 (nI (nk + 1)), ?_, (hF.mo (K := [11, 13]) (by decide)).up (by decide), gu_eq, fun k hk => ?_, fun x hx => ?_, fun y hy => ?_⟩
    · rw [LX5_takeTell_118]
      simp (decide := true) only [QX5_takeTell, if_true, e1, nI_a1]
    · rw [gu_nk hk, hF 11 (by decide)]
    · rw [gu_ne (by decide)]; exact h1 x hx
    · rw [gu_ne (by decide)]; exact h2 y hy
  | succ w ih =>
    intro i im hi hF h1 h2
    have c1 : ¬ (3 : Int32) ≤ nI i := nI_ge (b := 3) (by omega) (by decide)
    have e1 : im 11 3 = nI nk := by rw [hF 11 (by decide)]; exact h11
    have hT' : tokR im lm K V P N := by
      unfold tokR
      rw [hF 7 (by decide), hF 8 (by decide), hF 10 (by decide)]
      exact hT
    have hv := C_valueAt hT' h4 (x := t + 2 + i) (by omega)
    have hvi : (Int64.ofNat (V (t + 2 + i))).toInt32 = nI (V (t + 2 + i)) := i64_i32 (by have := hV2 i (by omega); omega)
    have e2 : nI nk * 3 + nI i = nI (3 * nk + i) := by rw [show (3 : Int32) = nI 3 from rfl, nI_mul, nI_add, Nat.mul_comm]
    have e3 : gm_in (nI (3 * nk + i)) 15 = true := gm_in_nI (by omega) (by decide)
    have e4 : (nI (3 * nk + i)).toNatClampNeg = 3 * nk + i := nI_clamp (by omega)
    have e5 : nI (t + 1 + 1) + nI i = nI (t + 2 + i) := nI_add _ _
    obtain ⟨im', i1, i2⟩ := ih (i + 1) (gm_up im 13 (3 * nk + i) (nI (V (t + 2 + i)))) (by omega) (hF.up (by decide)) (fun x hx => by
      by_cases ex : x = i
      · subst ex; exact gu_eq
      · rw [gu_nk (by omega)]; exact h1 x (by omega)) (fun y hy => by rw [gu_nk (by omega)]; exact h2 y hy)
    refine ⟨im', ?_, i2⟩
    rw [← i1, LX5_takeTell_118]
    simp (decide := true) only [QX5_takeTell, c1, if_true, if_false, e1, e2, e3, e4, e5, hv, hvi, gm_cont_l, nI_a1]
end
