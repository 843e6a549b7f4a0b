/-! bags by + -/
theorem sPart_ok {p t : Nat} (hp : p < 3) (ht : t ≤ 504) : sPart (nI p) (nI t) = Int64.ofNat ((4096 + t) * 2 ^ (16 * p)) := by
  unfold sPart
  have h1 : ((4096 : Int32) + nI t).toInt64 = Int64.ofNat (4096 + t) := by
    rw [show (4096 : Int32) = nI 4096 from rfl, nI_add, nI_l (by omega)]; rfl
  rw [h1]
  apply Int64.toBitVec_inj.mp
  have : p = 0 ∨ p = 1 ∨ p = 2 := by omega
  rcases this with rfl | rfl | rfl
  · show (BitVec.ofNat 64 (4096 + t)) <<< (BitVec.smod 0#64 64#64) = BitVec.ofNat 64 ((4096 + t) * 2 ^ (16 * 0))
    apply BitVec.eq_of_toNat_eq
    rw [show BitVec.smod 0#64 64#64 = 0#64 by decide]
    simp
  · show (BitVec.ofNat 64 (4096 + t)) <<< (BitVec.smod 16#64 64#64) = BitVec.ofNat 64 ((4096 + t) * 2 ^ (16 * 1))
    apply BitVec.eq_of_toNat_eq
    rw [show BitVec.smod 16#64 64#64 = 16#64 by decide]
    simp [Nat.shiftLeft_eq]
  · show (BitVec.ofNat 64 (4096 + t)) <<< (BitVec.smod 32#64 64#64) = BitVec.ofNat 64 ((4096 + t) * 2 ^ (16 * 2))
    apply BitVec.eq_of_toNat_eq
    rw [show BitVec.smod 32#64 64#64 = 32#64 by decide]
    simp [Nat.shiftLeft_eq]
/-- the sum of parts of those who speak -/
def gL (spk : Nat → Bool) (E : Nat → Int64) : Nat → Int64
  | 0 => 0
  | a + 1 => if spk a then gL spk E a + E a else gL spk E a
theorem gL_bag (spk : Nat → Bool) (P T : Nat → Nat) (n : Nat) (h : ∀ a, a < n → spk a = true → P a < 3 ∧ T a ≤ 504) : gL spk (fun a => sPart (nI (P a)) (nI (T a))) n = bag (fun s => gN spk P T s n) (fun s => gN spk P (fun _ => 1) s n) := by
  induction n with
  | zero => rfl
  | succ n ih =>
    have ih1 := ih (fun a ha => h a (by omega))
    simp only [gL, gN]
    by_cases hs : spk n = true
    · obtain ⟨h1, h2⟩ := h n (by omega) hs
      simp only [hs, if_true, Bool.true_and]
      rw [ih1, sPart_ok h1 h2]
      unfold bag
      rw [← Int64.ofNat_add]
      congr 1
      unfold gX
      have : P n = 0 ∨ P n = 1 ∨ P n = 2 := by omega
      rcases this with e | e | e <;> simp only [e, beq_iff_eq, Nat.reduceEqDiff, if_true, if_false, Nat.reduceMul, Nat.reducePow] <;> (try simp) <;> omega
    · simp only [hs, Bool.false_and]
      simpa using ih1
theorem gL_ext {spk spk' : Nat → Bool} {E E' : Nat → Int64} {n : Nat} (h1 : ∀ a, a < n → spk a = spk' a) (h2 : ∀ a, a < n → spk' a = true → E a = E' a) : gL spk E n = gL spk' E' n := by
  induction n with
  | zero => rfl
  | succ n ih =>
    simp only [gL]
    rw [ih (fun a ha => h1 a (by omega)) (fun a ha => h2 a (by omega)), h1 n (by omega)]
    by_cases hs : spk' n = true
    · rw [h2 n (by omega) hs]
    · simp [hs]
theorem lanes_gN (spk : Nat → Bool) (P T : Nat → Nat) (n : Nat) (hn : n ≤ 7) (h : ∀ a, a < n → T a ≤ 72) : lanes (fun s => gN spk P T s n) (fun s => gN spk P (fun _ => 1) s n) := by
  intro s hs
  have h1 := gN_le spk P T s n 72 h
  have h2 := gN_le spk P (fun _ => 1) s n 1 (fun _ _ => Nat.le_refl _)
  simp only []
  omega
/-- over: how much more, times the speeches of both -/
theorem C_over {S N : Nat → Nat} (h : lanes S N) {s b : Nat} (hs : s < 3) (hb : b < 3) (im : gm_I) (lm : gm_L) (x1 : Value) : gm_den 95 0 [.long (bag S N), x1, .int (nI s), .int (nI b)] [] 128 gm_RF im lm = some (some (.int (nI (S s * N b) - nI (S b * N s))), 128, gm_RF, im, lm) := by
  simp only [QX9_over, C_total h hs, C_total h hb, C_speeches h hs, C_speeches h hb, gm_cont_i, nI_mul]
theorem mul_pos7 {a b : Nat} (h1 : 0 < a) (h2 : 0 < b) : 0 < a * b := Nat.mul_pos h1 h2
theorem C_hundredfold {S N : Nat → Nat} (h : lanes S N) {s b : Nat} (hs : s < 3) (hb : b < 3) (h1 : 0 < N s) (h2 : 0 < N b) (hle : S b * N s ≤ S s * N b) (im : gm_I) (lm : gm_L) (x1 : Value) : gm_den 97 0 [.long (bag S N), x1, .int (nI s), .int (nI b), .null] [] 128 gm_RF im lm = some (some (.int (nI (100 * (S s * N b - S b * N s) / (N s * N b)))), 128, gm_RF, im, lm) := by
  have h3 := h s hs
  have h4 := h b hb
  have hp := Nat.mul_pos h1 h2
  have m0 : N s * N b ≤ 7 * 7 := Nat.mul_le_mul h3.2 h4.2
  have m1 : S s * N b ≤ 504 * 7 := Nat.mul_le_mul h3.1 h4.2
  have hz : ¬ nI (N s * N b) = 0 := nI_ne0 hp (by omega)
  simp only [QX9_hundredfold, C_speeches h hs, C_speeches h hb, C_over h hs hb, gm_cont_i, nI_mul, gm_cat_i, gm_cat_n, if_true, if_false, hz, not_false_eq_true, show Value.category .null = 1 from rfl]
  rw [nI_sub hle, show (100 : Int32) = nI 100 from rfl, nI_mul, nI_div (by omega) hp (by omega)]
