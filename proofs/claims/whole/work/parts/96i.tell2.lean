/-! the reference's tells: a man, a motion, a juror -/
def sWd (q : Nat) : Nat := if q = 93 ∨ q = 94 ∨ q = 99 ∨ q = 101 ∨ q = 103 then 1 else if q = 100 then 15 else if q = 102 then 8 else if q ≤ 98 then 7 else if q ≤ 105 then 3 else if q ≤ 110 then 130 else 420
def TF (s : Nat) (im im' : gm_I) : Prop := (∀ q, q ≠ 84 → (q < 93 ∨ 103 < q) → im' q = im q) ∧ (∀ j, j ∉ [11, 13, 14, 15, 16, 20] → im' 84 j = im 84 j) ∧ (∀ q j, 93 ≤ q → q ≤ 103 → ¬ (s * sWd q ≤ j ∧ j < s * sWd q + sWd q) → im' q j = im q j)
theorem TF.rf (s : Nat) (im : gm_I) : TF s im im := ⟨fun _ _ _ => rfl, fun _ _ => rfl, fun _ _ _ _ _ => rfl⟩
theorem TF.tr {s : Nat} {a b c : gm_I} (h : TF s a b) (k : TF s b c) : TF s a c := ⟨fun q x y => (k.1 q x y).trans (h.1 q x y), fun j hj => (k.2.1 j hj).trans (h.2.1 j hj), fun q j x y z => (k.2.2 q j x y z).trans (h.2.2 q j x y z)⟩
theorem Fo.tf {s : Nat} {L : List Nat} {a b : gm_I} (h : Fo L a b) (hL : ∀ j, j ∈ L → j ∈ [11, 13, 14, 15, 16, 20]) : TF s a b := ⟨fun q x _ => h.1 q x, fun j hj => h.2 j (fun e => hj (hL j e)), fun q j x y _ => by rw [h.1 q (by omega)]⟩
theorem TF.up {s : Nat} (im : gm_I) {q k : Nat} (v : Int32) (h1 : 93 ≤ q) (h2 : q ≤ 103) (h3 : s * sWd q ≤ k ∧ k < s * sWd q + sWd q) : TF s im (gm_up im q k v) := ⟨fun r x y => gu_row (by omega), fun j _ => gu_ne (by omega), fun r j x y z => by
  by_cases e : r = q
  · subst e
    exact gu_nk (fun ej => z (by rw [ej]; exact h3))
  · exact gu_ne e⟩
def tcx (K V P W : Nat → Nat) (M : Nat) : Prop := cxP K M ∧ (∀ t, K t = 2 → V t ≤ 9999) ∧ (∀ y, y ≤ M → P y ≤ 2000) ∧ (∀ x y, x < y → y ≤ M → P x < P y) ∧ (∀ y, W y < 2 ^ 63) ∧ (∀ x y, K x = 1 → K y = 1 → (W x = W y ↔ V x = V y))
theorem twc_iff {K V : Nat → Nat} {x : Nat} : ∀ {n : Nat}, twc K V x n = true ↔ ∃ i, i < n ∧ K i = 1 ∧ V i = V x := by
  intro n
  induction n with
  | zero => exact ⟨fun h => (by cases h), fun ⟨i, h, _⟩ => absurd h (Nat.not_lt_zero _)⟩
  | succ n ih =>
    simp only [twc, Bool.or_eq_true, Bool.and_eq_true, beq_iff_eq]
    rw [ih]
    constructor
    · intro h
      rcases h with ⟨i, a, b⟩ | b
      · exact ⟨i, by omega, b⟩
      · exact ⟨n, by omega, b⟩
    · intro ⟨i, a, b⟩
      by_cases e : i = n
      · rw [e] at b; exact Or.inr b
      · exact Or.inl ⟨i, by omega, b⟩
section
variable {K V P W : Nat → Nat} {M : Nat}
def gFd (K : Nat → Nat) (t n i : Nat) : Prop := (gst K g0 t).w = 1 ∧ (gst K g0 t).nm = n ∧ (gst K g0 t).it = i
theorem gFd_i {t i : Nat} (h : gFd K t 0 (i + 1)) : gf (gst K g0 t) (K t) = (if K t = 2 then 0 else 1) ∧ gFd K (t + 1) 0 i := by
  obtain ⟨h1, h2, h3⟩ := h
  refine ⟨?_, ?_⟩
  · unfold gf; rw [if_neg (by omega), if_pos h1, if_neg (by omega), if_pos (by omega)]
  · have e : gst K g0 (t + 1) = (GS.mk (gst K g0 t).w (gst K g0 t).nm ((gst K g0 t).it - 1) (gst K g0 t).sc (gst K g0 t).op (gst K g0 t).fi (gst K g0 t).tm) := by
      show gn (gst K g0 t) (K t) = _
      unfold gn; rw [if_neg (by omega), if_pos h1, if_neg (by omega), if_pos (by omega)]
    unfold gFd
    rw [e, GS_w, GS_nm, GS_it]
    exact ⟨h1, h2, by omega⟩
theorem gFd_n {t i : Nat} (h : gFd K t 1 i) : gf (gst K g0 t) (K t) = (if K t = 1 then 0 else 1) ∧ gFd K (t + 1) 0 i := by
  obtain ⟨h1, h2, h3⟩ := h
  refine ⟨?_, ?_⟩
  · unfold gf; rw [if_neg (by omega), if_pos h1, if_pos (by omega)]
  · have e : gst K g0 (t + 1) = (GS.mk (gst K g0 t).w ((gst K g0 t).nm - 1) (gst K g0 t).it (gst K g0 t).sc (gst K g0 t).op (gst K g0 t).fi (gst K g0 t).tm) := by
      show gn (gst K g0 t) (K t) = _
      unfold gn; rw [if_neg (by omega), if_pos h1, if_pos (by omega)]
    unfold gFd
    rw [e, GS_w, GS_nm, GS_it]
    exact ⟨h1, by omega, h3⟩
theorem gFd_e {t : Nat} (h : gFd K t 0 0) : gf (gst K g0 t) (K t) = (if K t = 59 then 0 else 1) ∧ (gst K g0 (t + 1)).w = 0 := by
  obtain ⟨h1, h2, h3⟩ := h
  refine ⟨?_, ?_⟩
  · unfold gf; rw [if_neg (by omega), if_pos h1, if_neg (by omega), if_neg (by omega)]
  · show (gn (gst K g0 t) (K t)).w = 0
    unfold gn; rw [if_neg (by omega), if_pos h1, if_neg (by omega), if_neg (by omega)]; rfl
def stgS (K P : Nat → Nat) (im : gm_I) (t i : Nat) (w : Nat × Nat) : Prop := okT K g0 t ∧ pO im t ∧ gFd K t 0 i ∧ wR im P w.1 w.2 ∧ w.1 ≤ 5 ∧ (¬ w.1 = 0 → w.2 < t)
theorem stgS_fr {im im' : gm_I} {t i : Nat} {w : Nat × Nat} (h : stgS K P im t i w) (h1 : ∀ j, im' 84 j = im 84 j) : stgS K P im' t i w := by
  unfold stgS pO wR
  rw [h1, h1, h1, h1]
  exact h
theorem M_bd (hx : tcx K V P W M) {im : gm_I} {lm : gm_L} {t i : Nat} {w : Nat × Nat} (hk : mTks im lm K V P W (M + 1)) (h : stgS K P im t (i + 1) w ∨ pB K P im) {lo hi : Nat} (hlo : lo ≤ 10) (hhi : hi ≤ 9999) : ∃ im' r, gm_den 189 0 [.ref 84, .int (nI lo), .int (nI hi), .null] [] 128 gm_RF im lm = some (some (.int r), 128, gm_RF, im', lm) ∧ Fo [11, 13, 14, 15, 16] im im' ∧ ((K t = 2 ∧ r = nI (V t) ∧ im 84 13 = 0 ∧ stgS K P im' (t + 1) i (wrB V lo hi t w.1 w.2)) ∨ pB K P im') := by
  obtain ⟨hc, hV2, hP, hPm, hW, hWV⟩ := hx
  rcases h with ⟨hok, hp, hf, hw, hw5, hwt⟩ | hB
  · have htM := okT_M hc hok
    obtain ⟨g1, g2⟩ := gFd_i hf
    obtain ⟨im', r, q1, q2, q3⟩ := M_bound hk hc hV2 hP hok hp (gE_w (by have := hf.1; omega)) g1 hlo hhi hw hw5 (fun h => ⟨by have := hwt h; omega, hPm _ _ (hwt h) htM⟩)
    refine ⟨im', r, q1, q2, ?_⟩
    rcases q3 with ⟨a, b, c, d, e, f⟩ | q3
    · refine Or.inl ⟨a, e, hp.2, c, d, g2, f, ?_, ?_⟩
      · unfold wrB; split; exact Nat.le_refl _; exact hw5
      · unfold wrB
        split
        · intro _; exact Nat.lt_succ_self t
        · intro h; exact Nat.lt_succ_of_lt (hwt h)
    · exact Or.inr q3
  · exact ⟨im, nI lo, M_boundB hB _ _, Fo.rf _ _, Or.inr hB⟩
/-- a name -/
def wrN (K V : Nat → Nat) (t : Nat) (w : Nat × Nat) : Nat × Nat := if w.1 = 0 ∧ twc K V t t = true then (3, t) else w
theorem M_nm (hx : tcx K V P W M) {im : gm_I} {lm : gm_L} {t i cnt : Nat} {w : Nat × Nat} (hk : mTks im lm K V P W (M + 1)) (hok : okT K g0 t) (hp : pO im t) (hf : gFd K t 1 i) (hw : wR im P w.1 w.2) (hw5 : w.1 ≤ 5) (hwt : ¬ w.1 = 0 → w.2 < t) (hcnt : cnt ≤ 20) (hn : nmR lm K W cnt t) (h20 : im 84 20 = nI cnt) : ∃ im', gm_den 187 0 [.ref 84, .null, .null] [] 128 gm_RF im lm = some (some (.int (nI t)), 128, gm_RF, im', lm) ∧ Fo [11, 13, 14, 15, 16] im im' ∧ ((K t = 1 ∧ stgS K P im' (t + 1) i (wrN K V t w)) ∨ pB K P im') := by
  obtain ⟨hc, hV2, hP, hPm, hW, hWV⟩ := hx
  have htM := okT_M hc hok
  obtain ⟨g1, g2⟩ := gFd_n hf
  have n1 : Value.category .null = 1 := rfl
  obtain ⟨J, j1, j2, j3⟩ := M_must hk hc hok hp (gE_w (by have := hf.1; omega)) (k := 1) rfl g1 (c := 1) rfl
  have hst : gm_den 187 0 [.ref 84, .null, .null] [] 128 gm_RF im lm = gm_den 187 12 [.ref 84, .int (nI t), .int 0] [] 128 gm_RF J lm := by
    simp (decide := true) only [QX12_named, hp.1, n1, if_true, j1, gm_cont_v]
  have J20 : J 84 20 = nI cnt := by rw [j2.2 20 (by decide)]; exact h20
  rcases j3 with ⟨k1, hg, o1, o2⟩ | hB
  · obtain ⟨ix, x1, x2⟩ := hn
    have hkJ : mTks J lm K V P W (M + 1) := by unfold mTks mTk1; rw [j2.1 87 (by decide), j2.1 88 (by decide), j2.1 89 (by decide)]; exact hk
    have hwJ : wR J P w.1 w.2 := wR_fr hw (j2.2 15 (by decide)) (j2.2 16 (by decide))
    obtain ⟨im', i1, i2, i3, i4⟩ := M_named_loop hkJ hc.1 hP hW htM k1 hcnt ix (fun i hi => (x1 i hi).2.2) J20 hw5 (fun h => ⟨by have := hwt h; omega, hPm _ _ (hwt h) htM⟩) cnt 0 J (by omega) (Fo.rf _ _) o2.2 (fun h => by obtain ⟨-, j, hj, -⟩ := h; exact absurd hj (Nat.not_lt_zero _)) (fun _ => hwJ)
    have hiff : (∃ j, j < cnt ∧ W (ix j) = W t) ↔ twc K V t t = true := by
      rw [twc_iff]
      constructor
      · intro ⟨j, a, b⟩
        obtain ⟨c1, c2, -⟩ := x1 j a
        exact ⟨ix j, c1, c2, (hWV _ _ c2 k1).mp b⟩
      · intro ⟨y, a, b, c⟩
        obtain ⟨j, d1, d2⟩ := x2 y a b
        exact ⟨j, d1, by rw [d2]; exact (hWV _ _ b k1).mpr c⟩
    refine ⟨im', hst.trans i1, (j2.mo (by decide)).tr (i2.mo (by decide)), Or.inl ⟨k1, o1, ?_, g2, ?_, ?_, ?_⟩⟩
    · unfold pO; rw [i2.2 11 (by decide), i2.2 13 (by decide)]; exact o2
    · unfold wrN
      by_cases hq : w.1 = 0 ∧ twc K V t t = true
      · rw [if_pos hq]; exact i3 ⟨hq.1, hiff.mpr hq.2⟩
      · rw [if_neg hq]; exact i4 (fun h => hq ⟨h.1, hiff.mp h.2⟩)
    · unfold wrN; split; exact (by decide : 3 ≤ 5); exact hw5
    · unfold wrN
      split
      · intro _; exact Nat.lt_succ_self t
      · intro h; exact Nat.lt_succ_of_lt (hwt h)
  · have e := (pB_ne hB).1
    refine ⟨J, ?_, j2.mo (by decide), Or.inr hB⟩
    rw [hst, show (0 : Int32) = nI 0 from rfl, LX12_named_12]
    by_cases h0 : nI cnt ≤ nI 0
    · simp (decide := true) only [QX12_named, J20, h0, if_true]
    · simp (decide := true) only [QX12_named, J20, h0, if_false, e, not_false_eq_true, if_true]
/-- the end of a tell with a name -/
theorem M_en (hx : tcx K V P W M) {im : gm_I} {lm : gm_L} {t x cnt : Nat} {w : Nat × Nat} (hk : mTks im lm K V P W (M + 1)) (h : stgS K P im t 0 w ∨ pB K P im) (hxM : x ≤ M) (hcnt : cnt < 20) (h20 : im 84 20 = nI cnt) : ∃ im' lm', gm_den 188 0 [.ref 84, .int (nI x)] [] 128 gm_RF im lm = some (none, 128, gm_RF, im', lm') ∧ Fo [11, 13, 14, 20] im im' ∧ ((K t = 59 ∧ okT K g0 (t + 1) ∧ (gst K g0 (t + 1)).w = 0 ∧ pO im' (t + 1) ∧ wR im' P w.1 w.2 ∧ im' 84 20 = nI (cnt + 1) ∧ lm' = gm_up lm 92 cnt (lm 90 x) ∧ im 84 13 = 0) ∨ (pB K P im' ∧ lm' = lm)) := by
  obtain ⟨hc, hV2, hP, hPm, hW, hWV⟩ := hx
  have hM := hc.1
  rcases h with ⟨hok, hp, hf, hw, hw5, hwt⟩ | hB
  · obtain ⟨g1, g2⟩ := gFd_e hf
    obtain ⟨J, j1, j2, j3⟩ := M_must hk hc hok hp (gE_w (by have := hf.1; omega)) (k := 59) rfl g1 (c := 4) rfl
    rcases j3 with ⟨k59, hg, o1, o2⟩ | hB
    · have e13 : J 84 13 ≤ 0 := by rw [o2.2]; decide
      have J20 : J 84 20 = nI cnt := by rw [j2.2 20 (by decide)]; exact h20
      have c1 : gm_in (nI cnt) 20 = true := gm_in_nI hcnt (by decide)
      have c1' : (nI cnt).toNatClampNeg = cnt := nI_clamp (by omega)
      have c2 : gm_in (nI x) 403 = true := gm_in_nI (by omega) (by decide)
      have c3 : (nI x).toNatClampNeg = x := nI_clamp (by omega)
      refine ⟨gm_up J 84 20 (nI (cnt + 1)), gm_up lm 92 cnt (lm 90 x), ?_, (j2.mo (by decide)).up (by decide), Or.inl ⟨k59, o1, g2, ?_, ?_, gu_eq, rfl, hp.2⟩⟩
      · simp (decide := true) only [QX12_ends, j1, gm_cont_v, e13, if_true, J20, c1, c1', c2, c3, nI_a1]
      · unfold pO; rw [gu_nk (by decide), gu_nk (by decide)]; exact o2
      · exact wR_fr hw (by rw [gu_nk (by decide), j2.2 15 (by decide)]) (by rw [gu_nk (by decide), j2.2 16 (by decide)])
    · have e := (pB_ne hB).2
      refine ⟨J, lm, ?_, j2.mo (by decide), Or.inr ⟨hB, rfl⟩⟩
      simp (decide := true) only [QX12_ends, j1, gm_cont_v, e, if_false]
  · have e := (pB_ne hB).2
    refine ⟨im, lm, ?_, Fo.rf _ _, Or.inr ⟨hB, rfl⟩⟩
    simp (decide := true) only [QX12_ends, M_mustB hB, gm_cont_v, e, if_false]
end
