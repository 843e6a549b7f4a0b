/-! what goes on: class and reference side by side -/
def rRel (c r : Nat → Int32) (nm nk ns : Nat) : Prop :=
  (∀ a, a < nm →
    (c (10 * a + 0) = r a ∧ ∃ q, q < ns ∧ r a = nI q) ∧
    (c (10 * a + 1) = r (7 + a) ∧ (r (7 + a) = -2 ∨ ∃ q, q < ns ∧ r (7 + a) = nI q)) ∧
    c (10 * a + 2) = r (14 + a) ∧
    (c (10 * a + 3) = r (21 + a) ∧ (r (21 + a) = -2 ∨ ∃ m, m < nk ∧ r (21 + a) = nI m ∧ r (70 + m) = -2)) ∧
    ((r (21 + a) = -2 ∧ c (10 * a + 4) = -2) ∨ (¬ r (21 + a) = -2 ∧ c (10 * a + 4) = r (28 + a) ∧ ∃ x, x < 4 ∧ r (28 + a) = nI x)) ∧
    (c (10 * a + 5) = r (35 + a) ∧ ∃ p, p ≤ 9 ∧ r (35 + a) = nI p) ∧
    (c (10 * a + 6) = r (42 + a) ∧ (r (42 + a) = -2 ∨ ∃ g, g ≤ 99 ∧ r (42 + a) = nI g)) ∧
    c (10 * a + 7) = r (49 + a) ∧
    ((r (49 + a) = -2 ∧ c (10 * a + 8) = -1) ∨ ((∃ o, o < 7 ∧ r (49 + a) = nI o) ∧ c (10 * a + 8) = r (56 + a) ∧ ∃ g, g ≤ 99 ∧ r (56 + a) = nI g)) ∧
    c (10 * a + 9) = r (63 + a)) ∧
  (∀ m, m < nk → c (70 + m) = r (70 + m) ∧ (r (70 + m) = -2 ∨ ∃ s, s < 3 ∧ r (70 + m) = nI s)) ∧
  c 75 = r 75 ∧ c 76 = r 76
section
variable {c r : Nat → Int32} {nm nk ns : Nat}
theorem rR_side (h : rRel c r nm nk ns) {a : Nat} (ha : a < nm) : c (10 * a + 0) = r a ∧ ∃ q, q < ns ∧ r a = nI q := (h.1 a ha).1
theorem rR_left (h : rRel c r nm nk ns) {a : Nat} (ha : a < nm) : c (10 * a + 1) = r (7 + a) ∧ (r (7 + a) = -2 ∨ ∃ q, q < ns ∧ r (7 + a) = nI q) := (h.1 a ha).2.1
theorem rR_coin (h : rRel c r nm nk ns) {a : Nat} (ha : a < nm) : c (10 * a + 2) = r (14 + a) := (h.1 a ha).2.2.1
theorem rR_top (h : rRel c r nm nk ns) {a : Nat} (ha : a < nm) : c (10 * a + 3) = r (21 + a) ∧ (r (21 + a) = -2 ∨ ∃ m, m < nk ∧ r (21 + a) = nI m ∧ r (70 + m) = -2) := (h.1 a ha).2.2.2.1
theorem rR_man (h : rRel c r nm nk ns) {a : Nat} (ha : a < nm) : (r (21 + a) = -2 ∧ c (10 * a + 4) = -2) ∨ (¬ r (21 + a) = -2 ∧ c (10 * a + 4) = r (28 + a) ∧ ∃ x, x < 4 ∧ r (28 + a) = nI x) := (h.1 a ha).2.2.2.2.1
theorem rR_prs (h : rRel c r nm nk ns) {a : Nat} (ha : a < nm) : c (10 * a + 5) = r (35 + a) ∧ ∃ p, p ≤ 9 ∧ r (35 + a) = nI p := (h.1 a ha).2.2.2.2.2.1
theorem rR_kept (h : rRel c r nm nk ns) {a : Nat} (ha : a < nm) : c (10 * a + 6) = r (42 + a) ∧ (r (42 + a) = -2 ∨ ∃ g, g ≤ 99 ∧ r (42 + a) = nI g) := (h.1 a ha).2.2.2.2.2.2.1
theorem rR_reads (h : rRel c r nm nk ns) {a : Nat} (ha : a < nm) : c (10 * a + 7) = r (49 + a) := (h.1 a ha).2.2.2.2.2.2.2.1
theorem rR_old (h : rRel c r nm nk ns) {a : Nat} (ha : a < nm) : (r (49 + a) = -2 ∧ c (10 * a + 8) = -1) ∨ ((∃ o, o < 7 ∧ r (49 + a) = nI o) ∧ c (10 * a + 8) = r (56 + a) ∧ ∃ g, g ≤ 99 ∧ r (56 + a) = nI g) := (h.1 a ha).2.2.2.2.2.2.2.2.1
theorem rR_slips (h : rRel c r nm nk ns) {a : Nat} (ha : a < nm) : c (10 * a + 9) = r (63 + a) := (h.1 a ha).2.2.2.2.2.2.2.2.2
theorem rR_fell (h : rRel c r nm nk ns) {m : Nat} (hm : m < nk) : c (70 + m) = r (70 + m) ∧ (r (70 + m) = -2 ∨ ∃ s, s < 3 ∧ r (70 + m) = nI s) := h.2.1 m hm
theorem rR_day (h : rRel c r nm nk ns) : c 75 = r 75 := h.2.2.1
theorem rR_paid (h : rRel c r nm nk ns) : c 76 = r 76 := h.2.2.2
end
/-- only the first places count -/
theorem rRel_eq {c c' r r' : Nat → Int32} {nm nk ns : Nat} (hm : nm ≤ 7) (hk : nk ≤ 5) (h : rRel c r nm nk ns) (hc : ∀ j, j < 77 → c' j = c j) (hr : ∀ j, j < 80 → r' j = r j) : rRel c' r' nm nk ns := by
  obtain ⟨h1, h2, h3, h4⟩ := h
  refine ⟨fun a ha => ?_, fun m hm2 => ?_, ?_, ?_⟩
  · have h9 := h1 a ha
    rw [← hc (10 * a + 0) (by omega), ← hc (10 * a + 1) (by omega), ← hc (10 * a + 2) (by omega), ← hc (10 * a + 3) (by omega), ← hc (10 * a + 4) (by omega), ← hc (10 * a + 5) (by omega), ← hc (10 * a + 6) (by omega), ← hc (10 * a + 7) (by omega), ← hc (10 * a + 8) (by omega), ← hc (10 * a + 9) (by omega)] at h9
    rw [← hr a (by omega), ← hr (7 + a) (by omega), ← hr (14 + a) (by omega), ← hr (21 + a) (by omega), ← hr (28 + a) (by omega), ← hr (35 + a) (by omega), ← hr (42 + a) (by omega), ← hr (49 + a) (by omega), ← hr (56 + a) (by omega), ← hr (63 + a) (by omega)] at h9
    obtain ⟨g1, g2, g3, g4, g5⟩ := h9
    refine ⟨g1, g2, g3, ⟨g4.1, ?_⟩, g5⟩
    rcases g4.2 with e | ⟨m, e1, e2, e3⟩
    · exact Or.inl e
    · exact Or.inr ⟨m, e1, e2, by rw [hr (70 + m) (by omega)]; exact e3⟩
  · rw [hc (70 + m) (by omega), hr (70 + m) (by omega)]; exact h2 m hm2
  · rw [hc 75 (by decide), hr 75 (by decide)]; exact h3
  · rw [hc 76 (by decide), hr 76 (by decide)]; exact h4
theorem neg_iff {ns : Nat} {x : Int32} (hns : ns ≤ 100) (h : x = -2 ∨ ∃ q, q < ns ∧ x = nI q) : (x < 0 ↔ x = -2) ∧ (0 ≤ x ↔ ¬ x = -2) := by
  rcases h with rfl | ⟨q, hq, rfl⟩
  · exact ⟨by decide, by decide⟩
  · have h0 : (0 : Int32) ≤ nI q := nI_le (a := 0) (Nat.zero_le _) (by omega)
    have h1 : ¬ nI q < 0 := Int32.not_lt.mpr h0
    have h2 : ¬ nI q = -2 := eO_256 (by omega)
    exact ⟨⟨fun h => absurd h h1, fun h => absurd h h2⟩, ⟨fun _ => h2, fun _ => h0⟩⟩
theorem rRel_ok {c r : Nat → Int32} {nm nk ns : Nat} (hns : ns = 2 ∨ ns = 3) (h : rRel c r nm nk ns) : rOk r nm ns := by
  refine ⟨fun a ha => ⟨(rR_side h ha).2, (rR_left h ha).2⟩, fun a ha h49 h56 => ?_⟩
  rcases rR_old h ha with ⟨e, -⟩ | ⟨-, -, g, hg, e⟩
  · rw [e] at h49; exact h49 (by decide)
  · rw [e] at h56
    have : (nI g).toInt = (-1 : Int32).toInt := by rw [h56]
    rw [nI_toInt (by omega)] at this
    have h2 : (-1 : Int32).toInt = -1 := by decide
    omega
theorem rOk_eq {r r' : Nat → Int32} {nm ns : Nat} (hm : nm ≤ 7) (h : rOk r nm ns) (hr : ∀ j, j < 80 → r' j = r j) : rOk r' nm ns := by
  refine ⟨fun a ha => ?_, fun a ha => ?_⟩
  · rw [hr a (by omega), hr (7 + a) (by omega)]; exact h.1 a ha
  · rw [hr (49 + a) (by omega), hr (56 + a) (by omega)]; exact h.2 a ha
/-- a man's speech, by the reference's row and by the class's -/
theorem mV_cV {B im : gm_I} {l nm nk nj ns : Nat} (hR : iRoll B l nm nk nj ns) (ho : Off B im) {r : Nat → Int32} (hr : rRel (B 22) r nm nk ns) (h117 : ∀ j, j < 80 → im 117 j = r j) {a : Nat} (ha : a < nm) (ma sl : Int32) : vEq (mV im l a ma sl) (upd (upd (cV B a) 5 ma) 6 sl) := by
  have hm7 := iR_nm hR
  have hns := iR_ns hR
  intro i h1 h2
  have : i = 2 ∨ i = 3 ∨ i = 4 ∨ i = 5 ∨ i = 6 ∨ i = 7 ∨ i = 8 ∨ i = 9 ∨ i = 10 := by omega
  have e96 : im 96 (7 * l + a) = B 12 (4 * a + 1) := by rw [ho.1 96 rfl]; exact (iR_man hR ha).2.1
  have e11 : B 11 0 = nI ns := iR_110 hR (Off.rf B)
  have e7 := rR_left hr ha
  have e0 := rR_side hr ha
  have n7 := neg_iff (by omega) e7.2
  rcases this with rfl | rfl | rfl | rfl | rfl | rfl | rfl | rfl | rfl
  · simp [mV, upd, cV]
  · simp [mV, upd, cV, e96]
  · have := (mPl_ok hns e0.2 e7.2).1
    simp only [mV, upd, cV]
    rw [h117 (7 + a) (by omega), h117 a (by omega), iR_93 hR ho]
    simp only [show ¬ (4 : Nat) = 2 by decide, show ¬ (4 : Nat) = 3 by decide, show ¬ (4 : Nat) = 5 by decide, show ¬ (4 : Nat) = 6 by decide, if_true, if_false]
    rw [this, e7.1, e0.1, e11]
  · simp [mV, upd]
  · simp [mV, upd]
  · have := (rR_prs hr ha).1
    simp [mV, upd, cV, h117 (35 + a) (by omega), this]
  · have := rR_day hr
    simp [mV, upd, cV, h117 75 (by decide), this]
  · simp only [mV, upd, cV]
    rw [h117 (7 + a) (by omega)]
    simp only [show ¬ (9 : Nat) = 2 by decide, show ¬ (9 : Nat) = 3 by decide, show ¬ (9 : Nat) = 4 by decide, show ¬ (9 : Nat) = 5 by decide, show ¬ (9 : Nat) = 6 by decide, show ¬ (9 : Nat) = 7 by decide, show ¬ (9 : Nat) = 8 by decide, if_true, if_false]
    rw [e7.1]
    by_cases h : r (7 + a) = -2
    · rw [if_pos (n7.1.mpr h), if_pos h]
    · rw [if_neg (fun hh => h (n7.1.mp hh)), if_neg h]
  · simp only [mV, upd, cV]
    rw [h117 (49 + a) (by omega), h117 (56 + a) (by omega)]
    simp only [show ¬ (10 : Nat) = 2 by decide, show ¬ (10 : Nat) = 3 by decide, show ¬ (10 : Nat) = 4 by decide, show ¬ (10 : Nat) = 5 by decide, show ¬ (10 : Nat) = 6 by decide, show ¬ (10 : Nat) = 7 by decide, show ¬ (10 : Nat) = 8 by decide, show ¬ (10 : Nat) = 9 by decide, if_true, if_false]
    rcases rR_old hr ha with ⟨e, e2⟩ | ⟨⟨o, ho7, e⟩, e2, -⟩
    · rw [e, e2, if_pos (by decide)]
    · rw [e, if_neg (nI_nlt (Nat.zero_le o) (by omega)), e2]
theorem mV_cV1 {B im : gm_I} {l nm nk nj ns : Nat} (hR : iRoll B l nm nk nj ns) (ho : Off B im) {r : Nat → Int32} (hr : rRel (B 22) r nm nk ns) (h117 : ∀ j, j < 80 → im 117 j = r j) {a : Nat} (ha : a < nm) (hsp : ¬ r (21 + a) = -2) (sl : Int32) : vEq (mV im l a (im 117 (28 + a)) sl) (upd (cV B a) 6 sl) := by
  have hm7 := iR_nm hR
  refine (mV_cV hR ho hr h117 ha _ sl).tr ?_
  have h5 : im 117 (28 + a) = cV B a 5 := by
    rw [h117 (28 + a) (by omega)]
    rcases rR_man hr ha with ⟨e, -⟩ | ⟨-, e, -⟩
    · exact absurd e hsp
    · simp [cV, e]
  intro i _ _
  unfold upd
  by_cases h6 : i = 6
  · simp [h6]
  · by_cases e5 : i = 5
    · subst e5; simp [h5]
    · simp [h6, e5]
/-- sums by sides, by voices -/
theorem mSum_v {B im : gm_I} {l nm nj : Nat} {m : Int32} {f : Nat → Bool} {v : Nat → Nat → Int32} (SL J : Nat) (h0 : ∀ a, a < nm → mSpk im m a = f a) (h1 : ∀ a, a < nm → f a = true → vEq (mV im l a (im 117 (28 + a)) (b32 (SL.testBit a))) (v a)) (s : Nat) : gN (mSpk im m) (mP im l) (fun a => mSm B im l nj a (b32 (SL.testBit a)) J) s nm = vSu B nj f nm v J s ∧ gN (mSpk im m) (mP im l) (fun _ => 1) s nm = vNu f nm v s := by
  have hP : ∀ a, a < nm → f a = true → mP im l a = pN (v a) := fun a ha hf => by
    unfold mP pN
    rw [← h1 a ha hf 4 (by decide) (by decide)]
    simp [mV]
  unfold vSu vNu
  refine ⟨gN_ext h0 (fun a ha hf => ⟨hP a ha hf, ?_⟩) s, gN_ext h0 (fun a ha hf => ⟨hP a ha hf, rfl⟩) s⟩
  unfold mSm
  exact vS_eq (h1 a ha hf) nj J
theorem mFall_v {B im : gm_I} {l nm nj : Nat} {m : Int32} {f : Nat → Bool} {v : Nat → Nat → Int32} (SL : Nat) (h0 : ∀ a, a < nm → mSpk im m a = f a) (h1 : ∀ a, a < nm → f a = true → vEq (mV im l a (im 117 (28 + a)) (b32 (SL.testBit a))) (v a)) : mFall B im l nm nj m SL = vFall B nj f nm v := by
  unfold mFall vFall
  exact gw_ext (fun s _ => mSum_v SL 255 h0 h1 s)
/-- the reference takes a copy of what goes on -/
theorem M_copies_loop (im0 : gm_I) (l : Nat) (hl2 : l < 2) (lm : gm_L) (j : Nat) (hj : j ≤ 80) (h18 : im0 84 18 = nI l) : gm_den 207 2 [.ref 84, .int (nI j)] [] 128 gm_RF (mCp im0 117 116 j) lm = some (none, 128, gm_RF, gm_up (mCp im0 117 116 80) 84 51 (im0 103 l), lm) := by
  obtain ⟨w, hw⟩ : ∃ w, j + w = 80 := ⟨80 - j, by omega⟩
  have e18 : ∀ k, mCp im0 117 116 k 84 18 = nI l := fun k => h18
  have e103 : ∀ k, mCp im0 117 116 k 103 l = im0 103 l := fun k => rfl
  induction w generalizing j with
  | zero =>
    have : j = 80 := by omega
    subst this
    rw [LX12_copies_2]
    simp (decide := true) only [QX12_copies, if_true, e18, i2 l hl2, e103]
  | succ w ih =>
    rw [LX12_copies_2]
    have h1 : gm_in (nI j) 80 = true := gm_in_nI (by omega) (by decide)
    have h2 : ¬ (80 : Int32) ≤ nI j := nI_ge (b := 80) (by omega) (by decide)
    have h3 : (nI j).toNatClampNeg = j := nI_clamp (by omega)
    simp only [QX12_copies, h1, h2, if_true, if_false, h3]
    have h4 : gm_up (mCp im0 117 116 j) 117 j (mCp im0 117 116 j 116 j) = mCp im0 117 116 (j + 1) := by
      funext q i
      unfold gm_up mCp
      by_cases hq : q = 117
      · subst hq
        by_cases hi : i = j
        · subst hi; simp
        · by_cases hlt : i < j
          · simp [hi, hlt, Nat.lt_succ_of_lt hlt]
          · simp [hi, hlt, show ¬ i < j + 1 by omega]
      · simp [hq]
    rw [h4, nI_1]
    exact ih (j + 1) (by omega) (by omega)
theorem M_copies {B im : gm_I} {l nm nk nj ns : Nat} (hR : iRoll B l nm nk nj ns) (ho : Off B im) (lm : gm_L) : ∃ im', gm_den 207 0 [.ref 84, .null] [] 128 gm_RF im lm = some (none, 128, gm_RF, im', lm) ∧ Off B im' ∧ (∀ j, j < 80 → im' 117 j = B 116 j) ∧ im' 84 51 = B 11 1 ∧ Fr [84, 117] im im' := by
  have h := M_copies_loop im l (iR_l hR) lm 0 (by omega) (iR_18 hR ho)
  have h0 : mCp im 117 116 0 = im := by funext q j; simp [mCp]
  rw [h0] at h
  have fr : Fr [84, 117] im (gm_up (mCp im 117 116 80) 84 51 (im 103 l)) := by
    intro q hq
    simp at hq
    rw [gu_row hq.1]
    funext j
    simp [mCp, hq.2]
  refine ⟨gm_up (mCp im 117 116 80) 84 51 (im 103 l), ?_, ?_, ?_, ?_, fr⟩
  · have n1 : Value.category .null = 1 := rfl
    simp only [QX12_copies, gm_cat_r, n1]
    exact h
  · apply Off.up84
    · refine ⟨fun q hq => ?_, fun k hk => ?_⟩
      · have : q ≠ 117 := by intro e; subst e; exact absurd hq (by decide)
        funext j
        simp only [mCp, this, false_and, if_false]
        rw [ho.1 q hq]
      · show im 84 k = _; exact ho.2 k hk
    · rfl
  · intro j hj
    rw [gu_ne (by decide)]
    simp only [mCp, hj, and_self, if_true]
    rw [ho.1 116 rfl]
  · rw [gu_eq]; exact iR_103 hR ho
