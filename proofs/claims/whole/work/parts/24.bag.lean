/-! the class: Tally -/
theorem lane (X k : Nat) (hX : X < 2 ^ 64) (hk : k < 64) : ((Int64.ofNat X).toUInt64 >>> (UInt64.ofNat k)).toInt64.toInt32 = nI (X / 2 ^ k) := by
  apply Int32.toBitVec_inj.mp
  apply BitVec.eq_of_toNat_eq
  have h1 : k % 18446744073709551616 % 64 = k := by omega
  have h2 : X % 18446744073709551616 = X := by omega
  show (BitVec.signExtend 32 ((BitVec.ofNat 64 X) >>> ((BitVec.ofNat 64 k) % 64#64))).toNat = (BitVec.ofNat 32 (X / 2 ^ k)).toNat
  rw [BitVec.signExtend_eq_setWidth_of_le _ (by decide)]
  simp [Nat.shiftRight_eq_div_pow, h1, h2]
theorem sh16 (s : Nat) (hs : s < 3) : ((16 * nI s).toInt64.toUInt64 &&& Int64.toUInt64 63) = UInt64.ofNat (16 * s) ∧ ((16 * nI s + 12).toInt64.toUInt64 &&& Int64.toUInt64 63) = UInt64.ofNat (16 * s + 12) := by
  have : s = 0 ∨ s = 1 ∨ s = 2 := by omega
  rcases this with rfl | rfl | rfl <;> decide
theorem nI_4095 (n : Nat) : nI n &&& 4095 = nI (n % 4096) := by
  apply Int32.toBitVec_inj.mp
  apply BitVec.eq_of_toNat_eq
  show ((BitVec.ofNat 32 n) &&& 4095#32).toNat = (BitVec.ofNat 32 (n % 4096)).toNat
  simp only [BitVec.toNat_and, BitVec.toNat_ofNat]
  rw [show 4095 % 2 ^ 32 = 2 ^ 12 - 1 by decide, Nat.and_two_pow_sub_one_eq_mod]
  omega
theorem nI_15 (n : Nat) : nI n &&& 15 = nI (n % 16) := by
  apply Int32.toBitVec_inj.mp
  apply BitVec.eq_of_toNat_eq
  show ((BitVec.ofNat 32 n) &&& 15#32).toNat = (BitVec.ofNat 32 (n % 16)).toNat
  simp only [BitVec.toNat_and, BitVec.toNat_ofNat]
  rw [show 15 % 2 ^ 32 = 2 ^ 4 - 1 by decide, Nat.and_two_pow_sub_one_eq_mod]
  omega
theorem nI_u12 (n : Nat) : ((nI n).toUInt32 >>> (Int32.toUInt32 12 &&& Int32.toUInt32 31)).toInt32 = nI (n % 2 ^ 32 / 4096) := by
  apply Int32.toBitVec_inj.mp
  apply BitVec.eq_of_toNat_eq
  show ((BitVec.ofNat 32 n) >>> (12#32 % 32#32)).toNat = (BitVec.ofNat 32 (n % 2 ^ 32 / 4096)).toNat
  simp [Nat.shiftRight_eq_div_pow]
  omega
/-- the long that holds sums and numbers -/
def gX (S N : Nat → Nat) : Nat := (4096 * N 0 + S 0) + 65536 * (4096 * N 1 + S 1) + 4294967296 * (4096 * N 2 + S 2)
def bag (S N : Nat → Nat) : Int64 := Int64.ofNat (gX S N)
def lanes (S N : Nat → Nat) : Prop := ∀ s, s < 3 → S s ≤ 504 ∧ N s ≤ 7
theorem gX_lt {S N : Nat → Nat} (h : lanes S N) : gX S N < 2 ^ 64 := by
  have h0 := h 0 (by decide); have h1 := h 1 (by decide); have h2 := h 2 (by decide)
  unfold gX; omega
theorem gX_s {S N : Nat → Nat} (h : lanes S N) {s : Nat} (hs : s < 3) : gX S N / 2 ^ (16 * s) % 4096 = S s ∧ gX S N / 2 ^ (16 * s) % 2 ^ 32 / 4096 % 16 = N s ∧ gX S N / 2 ^ (16 * s + 12) % 16 = N s := by
  have h0 := h 0 (by decide); have h1 := h 1 (by decide); have h2 := h 2 (by decide)
  have : s = 0 ∨ s = 1 ∨ s = 2 := by omega
  unfold gX
  rcases this with rfl | rfl | rfl <;> simp only [Nat.reduceMul, Nat.reducePow, Nat.reduceAdd] <;> omega
theorem C_total {S N : Nat → Nat} (h : lanes S N) {s : Nat} (hs : s < 3) (im : gm_I) (lm : gm_L) (x1 : Value) : gm_den 91 0 [.long (bag S N), x1, .int (nI s)] [] 128 gm_RF im lm = some (some (.int (nI (S s))), 128, gm_RF, im, lm) := by
  simp only [QX9_total, (sh16 s hs).1, bag, lane _ (16 * s) (gX_lt h) (by omega), nI_4095, (gX_s h hs).1]
theorem C_speeches {S N : Nat → Nat} (h : lanes S N) {s : Nat} (hs : s < 3) (im : gm_I) (lm : gm_L) (x1 : Value) : gm_den 92 0 [.long (bag S N), x1, .int (nI s)] [] 128 gm_RF im lm = some (some (.int (nI (N s))), 128, gm_RF, im, lm) := by
  simp only [QX9_speeches, (sh16 s hs).2, bag, lane _ (16 * s + 12) (gX_lt h) (by omega), nI_15, (gX_s h hs).2.2]
/-- the greatest mean but one side's -/
def gwl (left : Int32) (S N : Nat → Nat) : Nat → Option Nat
  | 0 => none
  | s + 1 => if nI s = left then gwl left S N s else match gwl left S N s with
    | none => if 0 < S s then some s else none
    | some b => if S b * N s < S s * N b then some s else some b
def oS (S : Nat → Nat) : Option Nat → Nat
  | none => 0
  | some b => S b
def oN (N : Nat → Nat) : Option Nat → Nat
  | none => 1
  | some b => N b
theorem gwl_lt {left : Int32} {S N : Nat → Nat} {n b : Nat} (h : gwl left S N n = some b) : b < n ∧ ¬ nI b = left := by
  induction n generalizing b with
  | zero => cases h
  | succ n ih =>
    simp only [gwl] at h
    by_cases hl : nI n = left
    · rw [if_pos hl] at h; have := ih h; exact ⟨by omega, this.2⟩
    · rw [if_neg hl] at h
      cases hg : gwl left S N n with
      | none => rw [hg] at h; simp only [] at h; split at h
                · cases h; exact ⟨by omega, hl⟩
                · cases h
      | some c => rw [hg] at h; simp only [] at h; have := ih hg
                  split at h <;> cases h
                  · exact ⟨by omega, hl⟩
                  · exact ⟨by omega, this.2⟩
theorem gwl_gw (S N : Nat → Nat) (n : Nat) (hn : n ≤ 3) : gwl (-1) S N n = gw S N n := by
  induction n with
  | zero => rfl
  | succ n ih =>
    have hne : ¬ nI n = -1 := by
      have : n = 0 ∨ n = 1 ∨ n = 2 := by omega
      rcases this with rfl | rfl | rfl <;> decide
    simp only [gwl, gw, ih (by omega), hne, if_false]
    cases gw S N n <;> rfl
theorem C_greatest_loop {S N : Nat → Nat} (h : lanes S N) (left : Int32) (im : gm_I) (lm : gm_L) (x1 : Value) : ∀ (w s : Nat) (x7 x8 x9 : Value), s + w = 3 → x7.category = 1 → x8.category = 1 → x9.category = 1 → gm_den 94 12 [.long (bag S N), x1, .int left, .int (eO (gwl left S N s)), .int (nI (oS S (gwl left S N s))), .int (nI (oN N (gwl left S N s))), .int (nI s), x7, x8, x9] [] 128 gm_RF im lm = some (some (.int (eO (gwl left S N 3))), 128, gm_RF, im, lm) := by
  intro w
  induction w with
  | zero =>
    intro s x7 x8 x9 hs c7 c8 c9
    have : s = 3 := by omega
    subst this
    rw [LX9_greatestBut_12]
    simp (decide := true) only [QX9_greatestBut, if_true]
  | succ w ih =>
    intro s x7 x8 x9 hs c7 c8 c9
    have hs3 : s < 3 := by omega
    have hlt : ¬ (3 : Int32) ≤ nI s := nI_ge (b := 3) hs3 (by decide)
    rw [LX9_greatestBut_12]
    have hL := h s hs3
    by_cases hl : nI s = left
    · have ih1 := ih (s + 1) (.int (nI (gX S N / 2 ^ (16 * s)))) (.int (nI (S s))) (.int (nI (N s))) (by omega) rfl rfl rfl
      simp only [gwl, hl, if_true] at ih1
      simp only [QX9_greatestBut, hlt, if_false, (sh16 s hs3).1, bag, lane _ (16 * s) (gX_lt h) (by omega), nI_4095, (gX_s h hs3).1, nI_u12, nI_15, (gX_s h hs3).2.1, gm_cat_i, c7, c8, c9, if_true, nI_a1]
      rw [if_pos hl]
      exact ih1
    · have ih1 := ih (s + 1) (.int (nI (gX S N / 2 ^ (16 * s)))) (.int (nI (S s))) (.int (nI (N s))) (by omega) rfl rfl rfl
      simp only [gwl, if_neg hl] at ih1
      simp only [QX9_greatestBut, hlt, if_false, (sh16 s hs3).1, bag, lane _ (16 * s) (gX_lt h) (by omega), nI_4095, (gX_s h hs3).1, nI_u12, nI_15, (gX_s h hs3).2.1, gm_cat_i, c7, c8, c9, if_true, nI_a1, nI_mul]
      rw [if_neg hl]
      cases hg : gwl left S N s with
      | none =>
        rw [hg] at ih1
        by_cases h0 : 0 < S s
        · simp only [h0, if_true] at ih1
          have hx : ¬ nI (S s * oN N none) ≤ nI (oS S none * N s) := nI_ge (by simp [oN, oS]; omega) (by simp [oN]; omega)
          simp only [hx, if_false]
          exact ih1
        · simp only [h0, if_false] at ih1
          have hx : nI (S s * oN N none) ≤ nI (oS S none * N s) := nI_le (by simp [oN, oS]; omega) (by simp [oS])
          simp only [hx, if_true]
          exact ih1
      | some b =>
        rw [hg] at ih1
        have hb := h b (by have := gwl_lt hg; omega)
        have m1 : S s * N b ≤ 504 * 7 := Nat.mul_le_mul hL.1 hb.2
        have m2 : S b * N s ≤ 504 * 7 := Nat.mul_le_mul hb.1 hL.2
        by_cases hc : S b * N s < S s * N b
        · simp only [hc, if_true] at ih1
          have hx : ¬ nI (S s * oN N (some b)) ≤ nI (oS S (some b) * N s) := nI_ge hc (by simp [oN]; omega)
          simp only [hx, if_false]
          exact ih1
        · simp only [hc, if_false] at ih1
          have hx : nI (S s * oN N (some b)) ≤ nI (oS S (some b) * N s) := nI_le (by simp [oN, oS]; omega) (by simp [oS]; omega)
          simp only [hx, if_true]
          exact ih1
theorem C_greatestBut {S N : Nat → Nat} (h : lanes S N) (left : Int32) (im : gm_I) (lm : gm_L) (x1 : Value) : gm_den 94 0 [.long (bag S N), x1, .int left, .null, .null, .null, .null, .null, .null, .null] [] 128 gm_RF im lm = some (some (.int (eO (gwl left S N 3))), 128, gm_RF, im, lm) := by
  have h1 := C_greatest_loop h left im lm x1 3 0 .null .null .null (by omega) rfl rfl rfl
  simp only [QX9_greatestBut, gm_cat_i, gm_cat_n, gm_cat_r]
  exact h1
theorem C_winner {S N : Nat → Nat} (h : lanes S N) (im : gm_I) (lm : gm_L) (x1 : Value) : gm_den 93 0 [.long (bag S N), x1] [] 128 gm_RF im lm = some (some (.int (eO (gw S N 3))), 128, gm_RF, im, lm) := by
  simp only [QX9_winner, C_greatestBut h, gm_cont_i, gwl_gw S N 3 (by decide)]
