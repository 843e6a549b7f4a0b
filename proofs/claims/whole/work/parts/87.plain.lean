/-! plain, word -/
theorem ix6s (s k : Nat) (hs : s < 2) (hk : k < 3) : gm_in (3 * nI s + nI k) 6 = true ∧ (3 * nI s + nI k).toNatClampNeg = 3 * s + k :=
  ix_nat (3 * s + k) (by rw [show (3 : Int32) = nI 3 from rfl, nI_mul, nI_add]) (by omega) (by decide)
def mPl0 (im : gm_I) (s : Nat) : gm_I := gm_up (gm_up (gm_up (gm_up (gm_up im 93 s 2) 94 s 0) 99 s 0) 101 s 0) 103 s 0
def mPlk (im : gm_I) (s k : Nat) : gm_I := gm_up (gm_up im 104 (3 * s + k) 0) 105 (3 * s + k) 0
def mPlain (im : gm_I) (s : Nat) : gm_I := mPlk (mPlk (mPlk (mPl0 im s) s 0) s 1) s 2
theorem M_plain_st {s k : Nat} (hs : s < 2) (hk : k < 3) (im : gm_I) (lm : gm_L) : gm_den 181 37 [.ref 84, .int (nI s), .int (nI k)] [] 128 gm_RF im lm = gm_den 181 37 [.ref 84, .int (nI s), .int (nI (k + 1))] [] 128 gm_RF (mPlk im s k) lm := by
  have hlt : ¬ (3 : Int32) ≤ nI k := nI_ge (b := 3) (by omega) (by decide)
  unfold mPlk
  rw [LX12_plain_37]
  simp only [QX12_plain, hlt, if_false, ix6s s k hs hk, if_true, nI_a1]
theorem M_plain {s : Nat} (hs : s < 2) (im : gm_I) (lm : gm_L) : gm_den 181 0 [.ref 84, .int (nI s), .null] [] 128 gm_RF im lm = some (none, 128, gm_RF, mPlain im s, lm) := by
  have n1 : Value.category .null = 1 := rfl
  have e0 : gm_den 181 0 [.ref 84, .int (nI s), .null] [] 128 gm_RF im lm = gm_den 181 37 [.ref 84, .int (nI s), .int (nI 0)] [] 128 gm_RF (mPl0 im s) lm := by
    simp (decide := true) only [QX12_plain, i2 s hs, if_true]
    rfl
  have e3 : ∀ im' : gm_I, gm_den 181 37 [.ref 84, .int (nI s), .int (nI 3)] [] 128 gm_RF im' lm = some (none, 128, gm_RF, im', lm) := fun im' => by
    have hle : (3 : Int32) ≤ nI 3 := by decide
    rw [LX12_plain_37]
    simp only [QX12_plain, hle, if_true]
  rw [e0, M_plain_st hs (by decide), M_plain_st hs (by decide), M_plain_st hs (by decide)]
  exact e3 _
def apx (x : Int64) (c : Int32) : Int64 := if c = 0 then x else 27 * x + (c - 97 + 1).toInt64
theorem M_appends (x : Int64) (c : Int32) (im : gm_I) (lm : gm_L) : gm_den 171 0 [.long x, .null, .int c] [] 128 gm_RF im lm = some (some (.long (apx x c)), 128, gm_RF, im, lm) := by
  unfold apx
  by_cases h : c = 0
  · simp (decide := true) only [QX12_appends, h, if_true, not_true_eq_false, if_false]
  · simp (decide := true) only [QX12_appends, h, if_false, not_false_eq_true, if_true]
theorem M_word (a b c d e f g : Int32) (im : gm_I) (lm : gm_L) : gm_den 172 0 [.int a, .int b, .int c, .int d, .int e, .int f, .int g] [] 128 gm_RF im lm = some (some (.long (apx (apx (apx (apx (apx (apx (apx 0 a) b) c) d) e) f) g)), 128, gm_RF, im, lm) := by
  simp (decide := true) only [QX12_word, M_appends, gm_cont_l]
