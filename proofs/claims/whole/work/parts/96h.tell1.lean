/-! the reference's tells: faults of sense, names, numbers -/
def wR (im : gm_I) (P : Nat → Nat) (wk wt : Nat) : Prop := im 84 15 = nI wk ∧ (¬ wk = 0 → im 84 16 = nI (P wt))
theorem wR_fr {im im' : gm_I} {P : Nat → Nat} {wk wt : Nat} (h : wR im P wk wt) (h1 : im' 84 15 = im 84 15) (h2 : im' 84 16 = im 84 16) : wR im' P wk wt := by
  unfold wR
  rw [h1, h2]
  exact h
section
variable {im : gm_I} {lm : gm_L} {K V P W : Nat → Nat} {M t : Nat}
/-- a fault of sense at a token behind all before, or the same once more -/
theorem M_wrong (hk : mTks im lm K V P W (M + 1)) (h13 : im 84 13 = 0) (hM : M ≤ 400) {x : Nat} (hx : x ≤ M) (hP : ∀ y, y ≤ M → P y ≤ 2000) {wk wt k : Nat} (hw : wR im P wk wt) (hk5 : k ≤ 5) (hk0 : ¬ k = 0) (hw5 : wk ≤ 5) (hord : ¬ wk = 0 → (wt ≤ M ∧ (P wt < P x ∨ (P wt = P x ∧ wk ≤ k)))) : ∃ im', gm_den 178 0 [.ref 84, .int (nI k), .int (nI x), .null] [] 128 gm_RF im lm = some (none, 128, gm_RF, im', lm) ∧ Fo [15, 16] im im' ∧ (wk = 0 → wR im' P k x) ∧ (¬ wk = 0 → wR im' P wk wt) := by
  obtain ⟨-, e1, -⟩ := hk x (by omega)
  have c2 : gm_in (nI x) 403 = true := gm_in_nI (by omega) (by decide)
  have c3 : (nI x).toNatClampNeg = x := nI_clamp (by omega)
  have e13 : ¬ 0 < im 84 13 := by rw [h13]; decide
  have hPx := hP x hx
  have n1 : Value.category .null = 1 := rfl
  by_cases h0 : wk = 0
  · subst h0
    have e15 : im 84 15 = 0 := hw.1
    refine ⟨gm_up (gm_up im 84 15 (nI k)) 84 16 (nI (P x)), ?_, ((Fo.rf _ _).up (by decide)).up (by decide), fun _ => ⟨by rw [gu_nk (by decide)]; exact gu_eq, fun _ => gu_eq⟩, fun h => absurd rfl h⟩
    simp (decide := true) only [QX12_wrong, c2, c3, e1, e13, e15, n1, if_true, if_false, not_true_eq_false]
  · obtain ⟨hwt, ho⟩ := hord h0
    have hPw := hP wt hwt
    have e15 : ¬ nI wk = 0 := nI_ne0 (by omega) (by omega)
    have e16 := hw.2 h0
    refine ⟨im, ?_, Fo.rf _ _, fun h => absurd h h0, fun _ => hw⟩
    rcases ho with ho | ⟨ho, ho2⟩
    · have c4 : nI (P wt) < nI (P x) := nI_lt ho (by omega)
      simp (decide := true) only [QX12_wrong, c2, c3, e1, e13, hw.1, e15, e16, c4, n1, if_true, if_false, not_true_eq_false, not_false_eq_true]
    · have c4 : ¬ nI (P wt) < nI (P wt) := Int32.lt_irrefl
      have c5 : nI (P x) = nI (P wt) := by rw [ho]
      have c6 : ¬ nI k < nI wk := nI_nlt ho2 (by omega)
      simp (decide := true) only [QX12_wrong, c2, c3, e1, e13, hw.1, e15, e16, c4, c5, c6, n1, if_true, if_false, not_true_eq_false, not_false_eq_true, Int32.le_refl]
/-- a number within bounds -/
def wrB (V : Nat → Nat) (lo hi t wk wt : Nat) : Nat × Nat := if wk = 0 ∧ (V t < lo ∨ hi < V t) then (5, t) else (wk, wt)
theorem M_bound (hk : mTks im lm K V P W (M + 1)) (hc : cxP K M) (hV2 : ∀ t, K t = 2 → V t ≤ 9999) (hP : ∀ y, y ≤ M → P y ≤ 2000) (hok : okT K g0 t) (hp : pO im t) (hgE : ¬ gE K g0 t) (hg : gf (gst K g0 t) (K t) = if K t = 2 then 0 else 1) {lo hi : Nat} (hlo : lo ≤ 10) (hhi : hi ≤ 9999) {wk wt : Nat} (hw : wR im P wk wt) (hw5 : wk ≤ 5) (hord : ¬ wk = 0 → wt ≤ M ∧ P wt < P t) : ∃ im' r, gm_den 189 0 [.ref 84, .int (nI lo), .int (nI hi), .null] [] 128 gm_RF im lm = some (some (.int r), 128, gm_RF, im', lm) ∧ Fo [11, 13, 14, 15, 16] im im' ∧ ((K t = 2 ∧ gf (gst K g0 t) (K t) = 0 ∧ okT K g0 (t + 1) ∧ pO im' (t + 1) ∧ r = nI (V t) ∧ wR im' P (wrB V lo hi t wk wt).1 (wrB V lo hi t wk wt).2) ∨ pB K P im') := by
  have hi2 := M_isK hk hc hok hp (k := 2) rfl (c := 2) rfl
  have htM := okT_M hc hok
  have hM := hc.1
  obtain ⟨-, e1, e3, -⟩ := hk t (by omega)
  have c2 : gm_in (nI t) 403 = true := gm_in_nI (by omega) (by decide)
  have c3 : (nI t).toNatClampNeg = t := nI_clamp (by omega)
  have e13 : ¬ 0 < im 84 13 := by rw [hp.2]; decide
  have n1 : Value.category .null = 1 := rfl
  by_cases k2 : K t = 2
  · rw [show (K t == 2) = true by simp [k2]] at hi2
    rw [if_pos k2] at hg
    have hv := hV2 t k2
    have e3' := e3 k2
    by_cases hr : V t < lo ∨ hi < V t
    · obtain ⟨J, j1, j2, j3, j4⟩ := M_wrong hk hp.2 hM htM hP (k := 5) hw (by decide) (by decide) hw5 (fun h => ⟨(hord h).1, Or.inl (hord h).2⟩)
      have hk1 : mTks J lm K V P W (M + 1) := by unfold mTks mTk1; rw [j2.1 87 (by decide), j2.1 88 (by decide), j2.1 89 (by decide)]; exact hk
      have hp1 : pO J t := by unfold pO; rw [j2.2 11 (by decide), j2.2 13 (by decide)]; exact hp
      obtain ⟨G, q1, q2, q3⟩ := M_goes hk1 hc hok hp1 hgE hg
      have z5 : nI 5 = 5 := rfl
      rw [z5] at j1
      refine ⟨G, nI (V t), ?_, (j2.mo (by decide)).tr (q2.mo (by decide)), ?_⟩
      · rcases hr with hr | hr
        · have d1 : nI (V t) < nI lo := nI_lt hr (by omega)
          simp (decide := true) only [QX12_bounded, e13, hi2, gm_cont_i, b32_t, hp.1, c2, c3, e3', d1, n1, if_true, if_false, not_true_eq_false, not_false_eq_true, j1, gm_cont_v, q1]
        · have d1 : ¬ nI (V t) < nI lo ∨ True := Or.inr trivial
          have d2 : ¬ nI (V t) ≤ nI hi := nI_ge hr (by omega)
          by_cases d3 : nI (V t) < nI lo
          · simp (decide := true) only [QX12_bounded, e13, hi2, gm_cont_i, b32_t, hp.1, c2, c3, e3', d3, n1, if_true, if_false, not_true_eq_false, not_false_eq_true, j1, gm_cont_v, q1]
          · simp (decide := true) only [QX12_bounded, e13, hi2, gm_cont_i, b32_t, hp.1, c2, c3, e3', d2, d3, n1, if_true, if_false, not_true_eq_false, not_false_eq_true, j1, gm_cont_v, q1]
      · rcases q3 with ⟨o1, o2⟩ | o
        · refine Or.inl ⟨k2, hg, o1, o2, rfl, ?_⟩
          unfold wrB
          by_cases h0 : wk = 0
          · rw [if_pos ⟨h0, hr⟩]
            exact wR_fr (j3 h0) (q2.2 15 (by decide)) (q2.2 16 (by decide))
          · rw [if_neg (fun h => h0 h.1)]
            exact wR_fr (j4 h0) (q2.2 15 (by decide)) (q2.2 16 (by decide))
        · exact Or.inr o
    · have d1 : ¬ nI (V t) < nI lo := nI_nlt (by omega) (by omega)
      have d2 : nI (V t) ≤ nI hi := nI_le (by omega) (by omega)
      obtain ⟨G, q1, q2, q3⟩ := M_goes hk hc hok hp hgE hg
      refine ⟨G, nI (V t), ?_, q2.mo (by decide), ?_⟩
      · simp (decide := true) only [QX12_bounded, e13, hi2, gm_cont_i, b32_t, hp.1, c2, c3, e3', d1, d2, n1, if_true, if_false, not_true_eq_false, not_false_eq_true, gm_cont_v, q1]
      · rcases q3 with ⟨o1, o2⟩ | o
        · refine Or.inl ⟨k2, hg, o1, o2, rfl, ?_⟩
          unfold wrB
          rw [if_neg (fun h => hr h.2)]
          exact wR_fr hw (q2.2 15 (by decide)) (q2.2 16 (by decide))
        · exact Or.inr o
  · rw [show (K t == 2) = false by simp [k2]] at hi2
    rw [if_neg k2] at hg
    obtain ⟨J, j1, j2, j3⟩ := M_failO hk hc hok hp (foT_bad hok hgE hg (by decide)) (by decide) (by decide)
    have z1 : nI 1 = 1 := rfl
    rw [z1] at j1
    refine ⟨J, nI lo, ?_, j2.mo (by decide), Or.inr j3⟩
    simp (decide := true) only [QX12_bounded, e13, hi2, gm_cont_i, b32_f, if_true, if_false, not_true_eq_false, not_false_eq_true, j1, gm_cont_v]
theorem M_boundB (h : pB K P im) (lo hi : Int32) : gm_den 189 0 [.ref 84, .int lo, .int hi, .null] [] 128 gm_RF im lm = some (some (.int lo), 128, gm_RF, im, lm) := by
  have e : 0 < im 84 13 := Int32.not_le.mp (pB_ne h).2
  simp (decide := true) only [QX12_bounded, e, if_true, M_failB h, gm_cont_v]
/-- names that were told -/
def nmR (lm : gm_L) (K W : Nat → Nat) (cnt t : Nat) : Prop := ∃ ix : Nat → Nat, (∀ i, i < cnt → ix i < t ∧ K (ix i) = 1 ∧ lm 92 i = Int64.ofNat (W (ix i))) ∧ ∀ y, y < t → K y = 1 → ∃ i, i < cnt ∧ ix i = y
/-- told twice, as far as the first i names go -/
theorem M_named_loop (hk : mTks im lm K V P W (M + 1)) (hM : M ≤ 400) (hP : ∀ y, y ≤ M → P y ≤ 2000) (hW : ∀ y, W y < 2 ^ 63) {x cnt : Nat} (hx : x ≤ M) (hx1 : K x = 1) (hcnt : cnt ≤ 20) (ix : Nat → Nat) (hix : ∀ i, i < cnt → lm 92 i = Int64.ofNat (W (ix i))) (h20 : im 84 20 = nI cnt) {wk wt : Nat} (hw5 : wk ≤ 5) (hord : ¬ wk = 0 → wt ≤ M ∧ P wt < P x) : ∀ (w i : Nat) (J : gm_I), i + w = cnt → Fo [15, 16] im J → J 84 13 = 0 → ((wk = 0 ∧ ∃ j, j < i ∧ W (ix j) = W x) → wR J P 3 x) → (¬ (wk = 0 ∧ ∃ j, j < i ∧ W (ix j) = W x) → wR J P wk wt) → ∃ im', gm_den 187 12 [.ref 84, .int (nI x), .int (nI i)] [] 128 gm_RF J lm = some (some (.int (nI x)), 128, gm_RF, im', lm) ∧ Fo [15, 16] im im' ∧ ((wk = 0 ∧ ∃ j, j < cnt ∧ W (ix j) = W x) → wR im' P 3 x) ∧ (¬ (wk = 0 ∧ ∃ j, j < cnt ∧ W (ix j) = W x) → wR im' P wk wt) := by
  intro w
  induction w with
  | zero =>
    intro i J hi hF h13 h1 h2
    have : i = cnt := by omega
    subst this
    have e20 : J 84 20 = nI i := by rw [hF.2 20 (by decide)]; exact h20
    have c : nI i ≤ nI i := Int32.le_refl _
    refine ⟨J, ?_, hF, h1, h2⟩
    rw [LX12_named_12]
    simp (decide := true) only [QX12_named, e20, c, if_true]
  | succ w ih =>
    intro i J hi hF h13 h1 h2
    have e20 : J 84 20 = nI cnt := by rw [hF.2 20 (by decide)]; exact h20
    have c : ¬ nI cnt ≤ nI i := nI_ge (by omega) (by omega)
    have c1 : gm_in (nI i) 20 = true := gm_in_nI (by omega) (by decide)
    have c1' : (nI i).toNatClampNeg = i := nI_clamp (by omega)
    have c2 : gm_in (nI x) 403 = true := gm_in_nI (by omega) (by decide)
    have c3 : (nI x).toNatClampNeg = x := nI_clamp (by omega)
    have hkJ : mTks J lm K V P W (M + 1) := by unfold mTks mTk1; rw [hF.1 87 (by decide), hF.1 88 (by decide), hF.1 89 (by decide)]; exact hk
    have hWx := (hk x (by omega)).2.2.2 hx1
    have hWi := hix i (by omega)
    by_cases he : W (ix i) = W x
    · have e0 : lg_cmp (lm 92 i) (lm 90 x) = 0 := by rw [lg_cmp_eq, hWi, hWx, he]
      have hJw : ∃ wk' wt', wR J P wk' wt' ∧ wk' ≤ 5 ∧ (¬ wk' = 0 → (wt' ≤ M ∧ (P wt' < P x ∨ (P wt' = P x ∧ wk' ≤ 3)))) ∧ ((wk = 0 ∧ (wk' = 0 ∨ (wk' = 3 ∧ wt' = x))) ∨ (¬ wk = 0 ∧ wk' = wk ∧ wt' = wt)) := by
        by_cases hp : wk = 0 ∧ ∃ j, j < i ∧ W (ix j) = W x
        · exact ⟨3, x, h1 hp, by decide, fun _ => ⟨hx, Or.inr ⟨rfl, Nat.le_refl _⟩⟩, Or.inl ⟨hp.1, Or.inr ⟨rfl, rfl⟩⟩⟩
        · refine ⟨wk, wt, h2 hp, hw5, fun h => ⟨(hord h).1, Or.inl (hord h).2⟩, ?_⟩
          by_cases h0 : wk = 0
          · exact Or.inl ⟨h0, Or.inl h0⟩
          · exact Or.inr ⟨h0, rfl, rfl⟩
      obtain ⟨wk', wt', g1, g2, g3, g4⟩ := hJw
      obtain ⟨G, q1, q2, q3, q4⟩ := M_wrong hkJ h13 hM hx hP (k := 3) g1 (by decide) (by decide) g2 g3
      have hG : (wk = 0 → wR G P 3 x) ∧ (¬ wk = 0 → wR G P wk wt) := by
        rcases g4 with ⟨a, b | ⟨b, d⟩⟩ | ⟨a, b, d⟩
        · exact ⟨fun _ => q3 b, fun h => absurd a h⟩
        · refine ⟨fun _ => ?_, fun h => absurd a h⟩
          have := q4 (by omega)
          rw [b, d] at this
          exact this
        · refine ⟨fun h => absurd h a, fun _ => ?_⟩
          have := q4 (by omega)
          rw [b, d] at this
          exact this
      have h13G : G 84 13 = 0 := by rw [q2.2 13 (by decide)]; exact h13
      obtain ⟨im', i1, i2⟩ := ih (i + 1) G (by omega) (hF.tr q2) h13G (fun h => hG.1 h.1) (fun h => by
        apply hG.2
        intro h0
        exact h ⟨h0, i, by omega, he⟩)
      refine ⟨im', ?_, i2⟩
      have z3 : nI 3 = 3 := rfl
      rw [z3] at q1
      rw [← i1, LX12_named_12]
      simp (decide := true) only [QX12_named, e20, c, c1, c1', c2, c3, h13, e0, if_true, if_false, not_true_eq_false, q1, gm_cont_v, nI_a1]
    · have e0 : ¬ lg_cmp (lm 92 i) (lm 90 x) = 0 := by
        rw [lg_cmp_eq, hWi, hWx]
        intro h
        exact he (i64_inj (hW _) (hW _) h)
      have hsame : (wk = 0 ∧ ∃ j, j < i + 1 ∧ W (ix j) = W x) ↔ (wk = 0 ∧ ∃ j, j < i ∧ W (ix j) = W x) := by
        constructor
        · intro ⟨a, j, b, d⟩
          refine ⟨a, j, ?_, d⟩
          apply Classical.byContradiction
          intro hn
          have : j = i := by omega
          rw [this] at d
          exact he d
        · intro ⟨a, j, b, d⟩
          exact ⟨a, j, by omega, d⟩
      obtain ⟨im', i1, i2⟩ := ih (i + 1) J (by omega) hF h13 (fun h => h1 (hsame.mp h)) (fun h => h2 (fun hh => h (hsame.mpr hh)))
      refine ⟨im', ?_, i2⟩
      rw [← i1, LX12_named_12]
      simp (decide := true) only [QX12_named, e20, c, c1, c1', c2, c3, h13, e0, if_true, if_false, not_true_eq_false, not_false_eq_true, nI_a1]
end
