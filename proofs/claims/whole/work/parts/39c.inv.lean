/-- a man's speech, by the reference's row and by the class's -/
theorem mV_cV {B im : gm_I} {l nm nk nj ns : Nat} (hR : iRoll B l nm nk nj ns) (ho : Off B im) {r : Nat → Int32} (hr : rRel (B 22) r nm nk ns) (h117 : ∀ j, j < 80 → im 117 j = r j) {a : Nat} (ha : a < nm) (ma sl : Int32) : vEq (mV im l a ma sl) (upd (upd (cV B a) 5 ma) 6 sl) := by
  have hm7 := iR_nm hR
  have hns := iR_ns hR
  intro i h1 h2
  have : i = 2 ∨ i = 3 ∨ i = 4 ∨ i = 5 ∨ i = 6 ∨ i = 7 ∨ i = 8 ∨ i = 9 ∨ i = 10 := by omega
  have e96 : im 96 (7 * l + a) = B 12 (4 * a + 1) := by rw [ho.1 96 rfl]; exact (iR_man hR ha).2.1
  have e11 : B 11 0 = nI ns := iR_110 hR (Off.rf B)
  have e7 := rR_left hr ha
  have e0 := rR_side hr ha
  have n7 := neg_iff (by omega) e7.2
  rcases this with rfl | rfl | rfl | rfl | rfl | rfl | rfl | rfl | rfl
  · simp [mV, upd, cV]
  · simp [mV, upd, cV, e96]
  · have := (mPl_ok hns e0.2 e7.2).1
    simp only [mV, upd, cV]
    rw [h117 (7 + a) (by omega), h117 a (by omega), iR_93 hR ho]
    simp only [show ¬ (4 : Nat) = 2 by decide, show ¬ (4 : Nat) = 3 by decide, show ¬ (4 : Nat) = 5 by decide, show ¬ (4 : Nat) = 6 by decide, if_true, if_false]
    rw [this, e7.1, e0.1, e11]
  · simp [mV, upd]
  · simp [mV, upd]
  · have := (rR_prs hr ha).1
    simp [mV, upd, cV, h117 (35 + a) (by omega), this]
  · have := rR_day hr
    simp [mV, upd, cV, h117 75 (by decide), this]
  · simp only [mV, upd, cV]
    rw [h117 (7 + a) (by omega)]
    simp only [show ¬ (9 : Nat) = 2 by decide, show ¬ (9 : Nat) = 3 by decide, show ¬ (9 : Nat) = 4 by decide, show ¬ (9 : Nat) = 5 by decide, show ¬ (9 : Nat) = 6 by decide, show ¬ (9 : Nat) = 7 by decide, show ¬ (9 : Nat) = 8 by decide, if_true, if_false]
    rw [e7.1]
    by_cases h : r (7 + a) = -2
    · rw [if_pos (n7.1.mpr h), if_pos h]
    · rw [if_neg (fun hh => h (n7.1.mp hh)), if_neg h]
  · simp only [mV, upd, cV]
    rw [h117 (49 + a) (by omega), h117 (56 + a) (by omega)]
    simp only [show ¬ (10 : Nat) = 2 by decide, show ¬ (10 : Nat) = 3 by decide, show ¬ (10 : Nat) = 4 by decide, show ¬ (10 : Nat) = 5 by decide, show ¬ (10 : Nat) = 6 by decide, show ¬ (10 : Nat) = 7 by decide, show ¬ (10 : Nat) = 8 by decide, show ¬ (10 : Nat) = 9 by decide, if_true, if_false]
    rcases rR_old hr ha with ⟨e, e2⟩ | ⟨⟨o, ho7, e⟩, e2, -⟩
    · rw [e, e2, if_pos (by decide)]
    · have hno : ¬ nI o < 0 := nI_nlt (Nat.zero_le o) (by omega)
      rw [e, if_neg hno, e2]
theorem mV_cV1 {B im : gm_I} {l nm nk nj ns : Nat} (hR : iRoll B l nm nk nj ns) (ho : Off B im) {r : Nat → Int32} (hr : rRel (B 22) r nm nk ns) (h117 : ∀ j, j < 80 → im 117 j = r j) {a : Nat} (ha : a < nm) (hsp : ¬ r (21 + a) = -2) (sl : Int32) : vEq (mV im l a (im 117 (28 + a)) sl) (upd (cV B a) 6 sl) := by
  have hm7 := iR_nm hR
  refine (mV_cV hR ho hr h117 ha _ sl).tr ?_
  have h5 : im 117 (28 + a) = cV B a 5 := by
    rw [h117 (28 + a) (by omega)]
    rcases rR_man hr ha with ⟨e, -⟩ | ⟨-, e, -⟩
    · exact absurd e hsp
    · simp [cV, e]
  intro i _ _
  unfold upd
  by_cases h6 : i = 6
  · simp [h6]
  · by_cases e5 : i = 5
    · subst e5; simp [h5]
    · simp [h6, e5]
