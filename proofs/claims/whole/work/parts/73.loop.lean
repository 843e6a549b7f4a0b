/-! the law's loop -/
theorem and63 (x : Int32) : ∃ j, j < 64 ∧ x &&& 63 = nI j := by
  refine ⟨(x &&& 63).toBitVec.toNat, ?_, ?_⟩
  · rw [Int32.toBitVec_and, BitVec.toNat_and]
    have : (63 : Int32).toBitVec.toNat = 63 := by decide
    rw [this]
    have := @Nat.and_le_right x.toBitVec.toNat 63
    omega
  · apply Int32.toBitVec_inj.mp
    show _ = BitVec.ofNat 32 (x &&& 63).toBitVec.toNat
    rw [BitVec.ofNat_toNat, BitVec.setWidth_eq]
theorem sw_step (hrd : AgrS) (x : Int32) : ∃ pc, (LCase pc ∨ pc = 1462) ∧ ∀ (a : Int32) (im : gm_I) (lm : gm_L), gm_den 304 33 [.ref 1000, .ref 0, .ref 84, .int a] [.int (x &&& 63)] 128 gm_RF im lm = gm_den 304 pc [.ref 1000, .ref 0, .ref 84, .int a] [] 128 gm_RF im lm := by
  obtain ⟨j, hj, e⟩ := and63 x
  rw [e]
  by_cases h : j < 36
  · rcases (by omega : j = 0 ∨ j = 1 ∨ j = 2 ∨ j = 3 ∨ j = 4 ∨ j = 5 ∨ j = 6 ∨ j = 7 ∨ j = 8 ∨ j = 9 ∨ j = 10 ∨ j = 11 ∨ j = 12 ∨ j = 13 ∨ j = 14 ∨ j = 15 ∨ j = 16 ∨ j = 17 ∨ j = 18 ∨ j = 19 ∨ j = 20 ∨ j = 21 ∨ j = 22 ∨ j = 23 ∨ j = 24 ∨ j = 25 ∨ j = 26 ∨ j = 27 ∨ j = 28 ∨ j = 29 ∨ j = 30 ∨ j = 31 ∨ j = 32 ∨ j = 33 ∨ j = 34 ∨ j = 35) with rfl | rfl | rfl | rfl | rfl | rfl | rfl | rfl | rfl | rfl | rfl | rfl | rfl | rfl | rfl | rfl | rfl | rfl | rfl | rfl | rfl | rfl | rfl | rfl | rfl | rfl | rfl | rfl | rfl | rfl | rfl | rfl | rfl | rfl | rfl | rfl
    · exact ⟨192, Or.inl (LC_feed), fun a im lm => by show gm_den 304 33 _ [.int 0] _ _ _ _ = _; simp only [QL_h]⟩
    · exact ⟨255, Or.inl (LC_back), fun a im lm => by show gm_den 304 33 _ [.int 1] _ _ _ _ = _; simp only [QL_h]⟩
    · exact ⟨278, Or.inl (LC_read hrd), fun a im lm => by show gm_den 304 33 _ [.int 2] _ _ _ _ = _; simp only [QL_h]⟩
    · exact ⟨291, Or.inl (LC_place), fun a im lm => by show gm_den 304 33 _ [.int 3] _ _ _ _ = _; simp only [QL_h]⟩
    · exact ⟨304, Or.inl (LC_man), fun a im lm => by show gm_den 304 33 _ [.int 4] _ _ _ _ = _; simp only [QL_h]⟩
    · exact ⟨337, Or.inl (LC_motion), fun a im lm => by show gm_den 304 33 _ [.int 5] _ _ _ _ = _; simp only [QL_h]⟩
    · exact ⟨370, Or.inl (LC_argues), fun a im lm => by show gm_den 304 33 _ [.int 6] _ _ _ _ = _; simp only [QL_h]⟩
    · exact ⟨429, Or.inl (LC_mark), fun a im lm => by show gm_den 304 33 _ [.int 7] _ _ _ _ = _; simp only [QL_h]⟩
    · exact ⟨488, Or.inl (LC_sum), fun a im lm => by show gm_den 304 33 _ [.int 8] _ _ _ _ = _; simp only [QL_h]⟩
    · exact ⟨537, Or.inl (LC_speak), fun a im lm => by show gm_den 304 33 _ [.int 9] _ _ _ _ = _; simp only [QL_h]⟩
    · exact ⟨580, Or.inl (LC_praise), fun a im lm => by show gm_den 304 33 _ [.int 10] _ _ _ _ = _; simp only [QL_h]⟩
    · exact ⟨603, Or.inl (LC_reads), fun a im lm => by show gm_den 304 33 _ [.int 11] _ _ _ _ = _; simp only [QL_h]⟩
    · exact ⟨636, Or.inl (LC_swear), fun a im lm => by show gm_den 304 33 _ [.int 12] _ _ _ _ = _; simp only [QL_h]⟩
    · exact ⟨669, Or.inl (LC_session), fun a im lm => by show gm_den 304 33 _ [.int 13] _ _ _ _ = _; simp only [QL_h]⟩
    · exact ⟨692, Or.inl (LC_undo), fun a im lm => by show gm_den 304 33 _ [.int 14] _ _ _ _ = _; simp only [QL_h]⟩
    · exact ⟨705, Or.inl (LC_now), fun a im lm => by show gm_den 304 33 _ [.int 15] _ _ _ _ = _; simp only [QL_h]⟩
    · exact ⟨738, Or.inl (LC_likely), fun a im lm => by show gm_den 304 33 _ [.int 16] _ _ _ _ = _; simp only [QL_h]⟩
    · exact ⟨797, Or.inl (LC_change), fun a im lm => by show gm_den 304 33 _ [.int 17] _ _ _ _ = _; simp only [QL_h]⟩
    · exact ⟨840, Or.inl (LC_choose), fun a im lm => by show gm_den 304 33 _ [.int 18] _ _ _ _ = _; simp only [QL_h]⟩
    · exact ⟨883, Or.inl (LC_chosen), fun a im lm => by show gm_den 304 33 _ [.int 19] _ _ _ _ = _; simp only [QL_h]⟩
    · exact ⟨942, Or.inl (LC_mumble), fun a im lm => by show gm_den 304 33 _ [.int 20] _ _ _ _ = _; simp only [QL_h]⟩
    · exact ⟨975, Or.inl (LC_jury), fun a im lm => by show gm_den 304 33 _ [.int 21] _ _ _ _ = _; simp only [QL_h]⟩
    · exact ⟨1018, Or.inl (LC_say), fun a im lm => by show gm_den 304 33 _ [.int 22] _ _ _ _ = _; simp only [QL_h]⟩
    · exact ⟨1051, Or.inl (LC_fine), fun a im lm => by show gm_den 304 33 _ [.int 23] _ _ _ _ = _; simp only [QL_h]⟩
    · exact ⟨1100, Or.inl (LC_ahead), fun a im lm => by show gm_den 304 33 _ [.int 24] _ _ _ _ = _; simp only [QL_h]⟩
    · exact ⟨1123, Or.inl (LC_harsh), fun a im lm => by show gm_den 304 33 _ [.int 25] _ _ _ _ = _; simp only [QL_h]⟩
    · exact ⟨1172, Or.inl (LC_praiseFor), fun a im lm => by show gm_den 304 33 _ [.int 26] _ _ _ _ = _; simp only [QL_h]⟩
    · exact ⟨1215, Or.inl (LC_old), fun a im lm => by show gm_den 304 33 _ [.int 27] _ _ _ _ = _; simp only [QL_h]⟩
    · exact ⟨1248, Or.inl (LC_year), fun a im lm => by show gm_den 304 33 _ [.int 28] _ _ _ _ = _; simp only [QL_h]⟩
    · exact ⟨1281, Or.inl (LC_tell), fun a im lm => by show gm_den 304 33 _ [.int 29] _ _ _ _ = _; simp only [QL_h]⟩
    · exact ⟨1314, Or.inl (LC_forget), fun a im lm => by show gm_den 304 33 _ [.int 30] _ _ _ _ = _; simp only [QL_h]⟩
    · exact ⟨1327, Or.inl (LC_slipped), fun a im lm => by show gm_den 304 33 _ [.int 31] _ _ _ _ = _; simp only [QL_h]⟩
    · exact ⟨1360, Or.inl (LC_thinks), fun a im lm => by show gm_den 304 33 _ [.int 32] _ _ _ _ = _; simp only [QL_h]⟩
    · exact ⟨1393, Or.inl (LC_hold), fun a im lm => by show gm_den 304 33 _ [.int 33] _ _ _ _ = _; simp only [QL_h]⟩
    · exact ⟨1416, Or.inl (LC_restore), fun a im lm => by show gm_den 304 33 _ [.int 34] _ _ _ _ = _; simp only [QL_h]⟩
    · exact ⟨1439, Or.inl (LC_count), fun a im lm => by show gm_den 304 33 _ [.int 35] _ _ _ _ = _; simp only [QL_h]⟩
  · refine ⟨1462, Or.inr rfl, fun a im lm => ?_⟩
    have ht : (nI j).toInt = j := nI_toInt (by omega)
    have hd : ((nI j).toInt < 0 ∨ 35 < (nI j).toInt) := by omega
    simp only [QL_h, hd]
theorem law_cond {a L : Nat} (hL : L ≤ 3072) (ha : a ≤ 4000) : (Int32.ofNat (nI L).toNatClampNeg - 6 < nI a) ↔ ¬ a + 6 ≤ L := by
  rw [nI_clamp (show L < 2 ^ 31 by omega)]
  show (nI L - 6 < nI a) ↔ _
  by_cases h : 6 ≤ L
  · rw [show (6 : Int32) = nI 6 from rfl, nI_sub h]
    constructor
    · intro h1 h2
      exact absurd h1 (nI_nlt (by omega) (by omega))
    · intro h2
      exact nI_lt (by omega) (by omega)
  · constructor
    · intro _; omega
    · intro _
      have h0 : (0 : Int32) ≤ nI a := Int32.le_iff_toInt_le.mpr (by rw [nI_toInt (by omega)]; show (0 : Int) ≤ a; omega)
      have h1 : nI L - 6 < 0 := by
        rcases (by omega : L = 0 ∨ L = 1 ∨ L = 2 ∨ L = 3 ∨ L = 4 ∨ L = 5) with rfl | rfl | rfl | rfl | rfl | rfl <;> decide
      exact Int32.lt_of_lt_of_le h1 h0
theorem law_loop (hrd : AgrS) {L : Nat} (hL : L ≤ 3072) : ∀ (w a : Nat) (im : gm_I) (lm : gm_L) (l nm nk nj ns : Nat), L < a + 6 * w + 6 → a ≤ L + 6 → Inv im lm l nm nk nj ns → im 2000 0 = nI L → stR im → ∃ (n : Nat) (rf : gm_R) (im' : gm_I) (lm' : gm_L), gm_den 304 18 [.ref 1000, .ref 0, .ref 84, .int (nI a)] [] 128 gm_RF im lm = some (some (.int 1), n, rf, im', lm') := by
  intro w
  induction w with
  | zero =>
    intro a im lm l nm nk nj ns hw ha hI h2 hsg
    have hc := (law_cond (a := a) hL (by omega)).mpr (by omega)
    refine ⟨128, gm_RF, im, lm, ?_⟩
    rw [LL_18]
    simp only [QL_h, QL_t, h2, hc, if_true]
  | succ w ih =>
    intro a im lm l nm nk nj ns hw ha hI h2 hsg
    by_cases h6 : a + 6 ≤ L
    · have hc : ¬ (Int32.ofNat (nI L).toNatClampNeg - 6 < nI a) := fun h => (law_cond hL (by omega)).mp h h6
      have hx := ixs h6 hL
      rw [hx.1] at hc
      obtain ⟨pc, hpc, hsw⟩ := sw_step hrd (im 1000 a)
      have e6 : nI a + 6 = nI (a + 6) := by rw [show (6 : Int32) = nI 6 from rfl, nI_add]
      have hstep : gm_den 304 18 [.ref 1000, .ref 0, .ref 84, .int (nI a)] [] 128 gm_RF im lm = gm_den 304 pc [.ref 1000, .ref 0, .ref 84, .int (nI a)] [] 128 gm_RF im lm := by
        rw [← hsw, LL_18]
        simp only [QL_h, h2, hc, if_false, hx, if_true]
      rcases hpc with hpc | rfl
      · obtain ⟨im2, lm2, l', nm', nk', nj', ns', h3, h4, h5, h7, h9⟩ := hpc im lm l nm nk nj ns L a hI h6 hL h2 hsg
        obtain ⟨n, rf, im', lm', h8⟩ := ih (a + 6) im2 lm2 l' nm' nk' nj' ns' (by omega) (by omega) h4 (by rw [h7]; exact h2) (stR_k hsg h9)
        refine ⟨n, rf, im', lm', ?_⟩
        rw [hstep, h3, ← h8]
        simp only [QL_t, e6]
      · obtain ⟨n, rf, im', lm', h8⟩ := ih (a + 6) im lm l nm nk nj ns (by omega) (by omega) hI h2 hsg
        refine ⟨n, rf, im', lm', ?_⟩
        rw [hstep, ← h8]
        simp only [QL_t, e6]
    · have hc := (law_cond (a := a) hL (by omega)).mpr h6
      refine ⟨128, gm_RF, im, lm, ?_⟩
      rw [LL_18]
      simp only [QL_h, QL_t, h2, hc, if_true]
