/-- sums by sides, by voices -/
theorem mSum_v {B im : gm_I} {l nm nj : Nat} {m : Int32} {f : Nat → Bool} {v : Nat → Nat → Int32} (SL J : Nat) (h0 : ∀ a, a < nm → mSpk im m a = f a) (h1 : ∀ a, a < nm → f a = true → vEq (mV im l a (im 117 (28 + a)) (b32 (SL.testBit a))) (v a)) (s : Nat) : gN (mSpk im m) (mP im l) (fun a => mSm B im l nj a (b32 (SL.testBit a)) J) s nm = vSu B nj f nm v J s ∧ gN (mSpk im m) (mP im l) (fun _ => 1) s nm = vNu f nm v s := by
  have hP : ∀ a, a < nm → f a = true → mP im l a = pN (v a) := fun a ha hf => by
    unfold mP pN
    rw [← h1 a ha hf 4 (by decide) (by decide)]
    simp [mV]
  unfold vSu vNu
  refine ⟨gN_ext h0 (fun a ha hf => ⟨hP a ha hf, ?_⟩) s, gN_ext h0 (fun a ha hf => ⟨hP a ha hf, rfl⟩) s⟩
  unfold mSm
  exact vS_eq (h1 a ha hf) nj J
theorem mFall_v {B im : gm_I} {l nm nj : Nat} {m : Int32} {f : Nat → Bool} {v : Nat → Nat → Int32} (SL : Nat) (h0 : ∀ a, a < nm → mSpk im m a = f a) (h1 : ∀ a, a < nm → f a = true → vEq (mV im l a (im 117 (28 + a)) (b32 (SL.testBit a))) (v a)) : mFall B im l nm nj m SL = vFall B nj f nm v := by
  unfold mFall vFall
  exact gw_ext (fun s _ => mSum_v SL 255 h0 h1 s)
/-- the reference takes a copy of what goes on -/
theorem M_copies_loop (im0 : gm_I) (l : Nat) (hl2 : l < 2) (lm : gm_L) (j : Nat) (hj : j ≤ 80) (h18 : im0 84 18 = nI l) : gm_den 207 2 [.ref 84, .int (nI j)] [] 128 gm_RF (mCp im0 117 116 j) lm = some (none, 128, gm_RF, gm_up (mCp im0 117 116 80) 84 51 (im0 103 l), lm) := by
  obtain ⟨w, hw⟩ : ∃ w, j + w = 80 := ⟨80 - j, by omega⟩
  have e18 : ∀ k, mCp im0 117 116 k 84 18 = nI l := fun k => h18
  have e103 : ∀ k, mCp im0 117 116 k 103 l = im0 103 l := fun k => rfl
  induction w generalizing j with
  | zero =>
    have : j = 80 := by omega
    subst this
    rw [LX12_copies_2]
    simp (decide := true) only [QX12_copies, if_true, e18, i2 l hl2, e103]
  | succ w ih =>
    rw [LX12_copies_2]
    have h1 : gm_in (nI j) 80 = true := gm_in_nI (by omega) (by decide)
    have h2 : ¬ (80 : Int32) ≤ nI j := nI_ge (b := 80) (by omega) (by decide)
    have h3 : (nI j).toNatClampNeg = j := nI_clamp (by omega)
    simp only [QX12_copies, h1, h2, if_true, if_false, h3]
    have h4 : gm_up (mCp im0 117 116 j) 117 j (mCp im0 117 116 j 116 j) = mCp im0 117 116 (j + 1) := by
      funext q i
      unfold gm_up mCp
      by_cases hq : q = 117
      · subst hq
        by_cases hi : i = j
        · subst hi; simp
        · by_cases hlt : i < j
          · simp [hi, hlt, Nat.lt_succ_of_lt hlt]
          · simp [hi, hlt, show ¬ i < j + 1 by omega]
      · simp [hq]
    rw [h4, nI_1]
    exact ih (j + 1) (by omega) (by omega)
theorem M_copies {B im : gm_I} {l nm nk nj ns : Nat} (hR : iRoll B l nm nk nj ns) (ho : Off B im) (lm : gm_L) : ∃ im', gm_den 207 0 [.ref 84, .null] [] 128 gm_RF im lm = some (none, 128, gm_RF, im', lm) ∧ Off B im' ∧ (∀ j, j < 80 → im' 117 j = B 116 j) ∧ im' 84 51 = B 11 1 ∧ Fr [84, 117] im im' := by
  have h := M_copies_loop im l (iR_l hR) lm 0 (by omega) (iR_18 hR ho)
  have h0 : mCp im 117 116 0 = im := by funext q j; simp [mCp]
  rw [h0] at h
  have fr : Fr [84, 117] im (gm_up (mCp im 117 116 80) 84 51 (im 103 l)) := by
    intro q hq
    simp at hq
    rw [gu_row hq.1]
    funext j
    simp [mCp, hq.2]
  refine ⟨gm_up (mCp im 117 116 80) 84 51 (im 103 l), ?_, ?_, ?_, ?_, fr⟩
  · have n1 : Value.category .null = 1 := rfl
    simp only [QX12_copies, gm_cat_r, n1]
    exact h
  · apply Off.up84
    · refine ⟨fun q hq => ?_, fun k hk => ?_⟩
      · have : q ≠ 117 := by intro e; subst e; exact absurd hq (by decide)
        funext j
        simp only [mCp, this, false_and, if_false]
        rw [ho.1 q hq]
      · show im 84 k = _; exact ho.2 k hk
    · rfl
  · intro j hj
    rw [gu_ne (by decide)]
    simp only [mCp, hj, and_self, if_true]
    rw [ho.1 116 rfl]
  · rw [gu_eq]; exact iR_103 hR ho
