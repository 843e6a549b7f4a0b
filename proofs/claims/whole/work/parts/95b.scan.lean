/-! the scanner -/
theorem gu_gu {α : Type} (f : Nat → Nat → α) (o k : Nat) (v w : α) : gm_up (gm_up f o k v) o k w = gm_up f o k w := by
  funext a b
  unfold gm_up
  by_cases h : a = o
  · by_cases h2 : b = k <;> simp [h, h2]
  · simp [h]
theorem Fr.up1 {α : Type} {a : Nat → Nat → α} {q k : Nat} {v : α} {L : List Nat} (hq : q ∈ L) : Fr L a (gm_up a q k v) := (Fr.rf L a).up hq
def TX (im : gm_I) (tb : Nat → Nat) (n : Nat) : Prop := n ≤ 2000 ∧ ∀ i, i < n → tb i < 256 ∧ im 1 i = byN (tb i)
theorem TX.fr {im im' : gm_I} {tb : Nat → Nat} {n : Nat} (h : TX im tb n) (e : im' 1 = im 1) : TX im' tb n := ⟨h.1, fun i hi => by rw [e]; exact h.2 i hi⟩
theorem C_blank {im : gm_I} {tb : Nat → Nat} {n : Nat} (hT : TX im tb n) (x3 : Int32) (lm : gm_L) : ∀ w i : Nat, n ≤ i + w → i ≤ n → gm_den 63 5 [.ref 3, .ref 1, .int (nI n), .int x3] [] 128 gm_RF (gm_up im 3 3 (nI i)) lm = gm_den 63 38 [.ref 3, .ref 1, .int (nI n), .int x3] [] 128 gm_RF (gm_up im 3 3 (nI (txR txB tb n i))) lm := by
  obtain ⟨h2000, hT⟩ := hT
  intro w
  induction w with
  | zero =>
    intro i h1 h2
    have hle : nI n ≤ nI i := nI_le (by omega) (by omega)
    rw [txR_ge (by omega), LX6_step_5]
    simp only [QX6_step, gu_eq, hle, if_true]
  | succ w ih =>
    intro i h1 h2
    by_cases hi : i < n
    · have hle : ¬ nI n ≤ nI i := nI_ge hi (by omega)
      have hin : gm_in (nI i) 2000 = true := gm_in_nI (by omega) (by decide)
      have hcl : (nI i).toNatClampNeg = i := nI_clamp (by omega)
      obtain ⟨hb, ht⟩ := hT i hi
      have ht' : gm_up im 3 3 (nI i) 1 i = byN (tb i) := by rw [gu_ne (by decide)]; exact ht
      cases hB : txB (tb i) with
      | true =>
        rw [txR_go hi hB, ← ih (i + 1) (by omega) (by omega), LX6_step_5]
        simp (decide := true) only [QX6_step, gu_eq, hle, if_false, hin, hcl, if_true, ht', C_isBlank hb, hB, b32_t, gm_cont_i, gu_gu, nI_a1]
      | false =>
        rw [txR_no hB, LX6_step_5]
        simp (decide := true) only [QX6_step, gu_eq, hle, if_false, hin, hcl, if_true, ht', C_isBlank hb, hB, b32_f, gm_cont_i]
    · have hle : nI n ≤ nI i := nI_le (by omega) (by omega)
      rw [txR_ge (by omega), LX6_step_5]
      simp only [QX6_step, gu_eq, hle, if_true]
theorem i64_lin (v b : Nat) (h : 97 ≤ b) : Int64.ofNat v * 32 + Int64.ofNat b - 97 + 1 = Int64.ofNat (v * 32 + (b - 96)) := by
  obtain ⟨c, rfl⟩ : ∃ c, b = c + 96 := ⟨b - 96, by omega⟩
  rw [Nat.add_sub_cancel, Int64.ofNat_add, Int64.ofNat_add, Int64.ofNat_mul, Int64.sub_eq_add_neg, Int64.add_assoc, Int64.add_assoc, Int64.add_assoc]
  have : Int64.ofNat 96 + (-97 + 1) = 0 := by decide
  rw [this, Int64.add_zero]
  rfl
theorem i64_inj {a b : Nat} (ha : a < 2 ^ 63) (hb : b < 2 ^ 63) (h : Int64.ofNat a = Int64.ofNat b) : a = b := by
  have h1 : (Int64.ofNat a).toBitVec.toNat = (Int64.ofNat b).toBitVec.toNat := by rw [h]
  have e : ∀ x, x < 2 ^ 63 → (Int64.ofNat x).toBitVec.toNat = x := by
    intro x hx
    show (BitVec.ofNat 64 x).toNat = x
    rw [BitVec.toNat_ofNat, Nat.mod_eq_of_lt (by omega)]
  rw [e a ha, e b hb] at h1
  exact h1
theorem txL_r {b : Nat} (h : txL b = true) : 97 ≤ b ∧ b ≤ 122 := by
  unfold txL at h
  simpa using h
theorem txD_r {b : Nat} (h : txD b = true) : 48 ≤ b ∧ b ≤ 57 := by
  unfold txD at h
  simpa using h
theorem C_lets {im : gm_I} {tb : Nat → Nat} {n p : Nat} (hT : TX im tb n) (h3 : im 3 3 = nI p) (x3 : Value) (lm : gm_L) : ∀ w j : Nat, n ≤ j + w → p ≤ j → j ≤ n → (∀ x, p ≤ x → x < j → txL (tb x) = true) → gm_den 64 8 [.ref 3, .ref 1, .int (nI n), x3] [] 128 gm_RF (gm_up im 3 4 (nI j)) (gm_up lm 3 2 (Int64.ofNat (pkG 32 (tkd tb p) (min 8 (j - p))))) = gm_den 64 81 [.ref 3, .ref 1, .int (nI n), x3] [] 128 gm_RF (gm_up im 3 4 (nI (txR txL tb n j))) (gm_up lm 3 2 (Int64.ofNat (pkG 32 (tkd tb p) (min 8 (txR txL tb n j - p))))) := by
  obtain ⟨h2000, hT⟩ := hT
  intro w
  induction w with
  | zero =>
    intro j h1 h2 h4 h5
    have hle : nI n ≤ nI j := nI_le (by omega) (by omega)
    rw [txR_ge (by omega), LX6_takeLetters_8]
    simp only [QX6_takeLetters, gu_eq, hle, if_true]
  | succ w ih =>
    intro j h1 h2 h4 h5
    by_cases hj : j < n
    · have hle : ¬ nI n ≤ nI j := nI_ge hj (by omega)
      have hin : gm_in (nI j) 2000 = true := gm_in_nI (by omega) (by decide)
      have hcl : (nI j).toNatClampNeg = j := nI_clamp (by omega)
      obtain ⟨hb, ht⟩ := hT j hj
      have ht' : gm_up im 3 4 (nI j) 1 j = byN (tb j) := by rw [gu_ne (by decide)]; exact ht
      have h3' : gm_up im 3 4 (nI j) 3 3 = nI p := by rw [gu_nk (by decide)]; exact h3
      have hsb : nI j - nI p = nI (j - p) := nI_sub h2
      cases hL : txL (tb j) with
      | true =>
        have hl := txL_r hL
        have hbn : byN (tb j) = nI (tb j) ∧ (nI (tb j)).toInt64 = Int64.ofNat (tb j) := (by_fin ⟨tb j, hb⟩).2.2.2.2.2.2.2 (by show tb j < 128; omega)
        rw [txR_go hj hL, ← ih (j + 1) (by omega) (by omega) (by omega) (fun x a b => by
          by_cases hx : x = j
          · rw [hx]; exact hL
          · exact h5 x a (by omega)), LX6_takeLetters_8]
        by_cases h8 : j - p < 8
        · have h8' : ¬ (8 : Int32) ≤ nI (j - p) := nI_ge (b := 8) h8 (by decide)
          have e1 : min 8 (j - p) = j - p := by omega
          have e2 : min 8 (j + 1 - p) = (j - p) + 1 := by omega
          have e3 : pkG 32 (tkd tb p) ((j - p) + 1) = pkG 32 (tkd tb p) (j - p) * 32 + (tb j - 96) := by
            show _ * 32 + tkd tb p (j - p) = _
            unfold tkd
            rw [show p + (j - p) = j by omega]
          have e6 : (byN (tb j)).toInt64 = Int64.ofNat (tb j) := by rw [hbn.1, hbn.2]
          rw [e1, e2, e3, ← i64_lin _ _ hl.1, ← e6]
          simp (decide := true) only [QX6_takeLetters, gu_eq, hle, if_false, hin, hcl, if_true, ht', C_isLetter hb, hL, b32_t, gm_cont_i, gu_gu, nI_a1, h3', hsb, h8']
        · have h8' : (8 : Int32) ≤ nI (j - p) := nI_le (a := 8) (by omega) (by omega)
          have e1 : min 8 (j - p) = 8 := by omega
          have e2 : min 8 (j + 1 - p) = 8 := by omega
          rw [e1, e2]
          simp (decide := true) only [QX6_takeLetters, gu_eq, hle, if_false, hin, hcl, if_true, ht', C_isLetter hb, hL, b32_t, gm_cont_i, gu_gu, nI_a1, h3', hsb, h8']
      | false =>
        rw [txR_no hL, LX6_takeLetters_8]
        simp (decide := true) only [QX6_takeLetters, gu_eq, hle, if_false, hin, hcl, if_true, ht', C_isLetter hb, hL, b32_f, gm_cont_i]
    · have hle : nI n ≤ nI j := nI_le (by omega) (by omega)
      rw [txR_ge (by omega), LX6_takeLetters_8]
      simp only [QX6_takeLetters, gu_eq, hle, if_true]
theorem cwd_b : ∀ w : Fin 20, pkL 32 (cwd w.val) < 2 ^ 63 := by decide
theorem C_words {im : gm_I} {lm : gm_L} (hw : ∀ w, w < 20 → lm 4 w = Int64.ofNat (pkL 32 (cwd w))) {v : Nat} (hv : v < 2 ^ 63) (hl : lm 3 2 = Int64.ofNat v) (h1 : im 3 1 = 1) (x2 : Int32) : ∀ f w : Nat, w + f = 20 → gm_den 64 106 [.ref 3, .ref 1, .int x2, .int (nI w)] [] 128 gm_RF im lm = some (none, 128, gm_RF, if wSr v f w = 20 then im else gm_up im 3 1 (nI (128 + wSr v f w)), lm) := by
  intro f
  induction f with
  | zero =>
    intro w hf
    have : w = 20 := by omega
    subst this
    rw [LX6_takeLetters_106]
    simp (decide := true) only [QX6_takeLetters, wSr, if_true]
  | succ f ih =>
    intro w hf
    have hlt : ¬ Int32.ofNat 20 ≤ nI w := nI_ge (b := 20) (by omega) (by decide)
    have hin : gm_in (nI w) 20 = true := gm_in_nI (by omega) (by decide)
    have hcl : (nI w).toNatClampNeg = w := nI_clamp (by omega)
    by_cases hc : pkL 32 (cwd w) = v
    · have e0 : lg_cmp (lm 4 w) (lm 3 2) = 0 := by rw [lg_cmp_eq, hw w (by omega), hl, hc]
      have e1 : wSr v (f + 1) w = w := by simp only [wSr]; rw [if_pos hc]
      have e2 : ¬ w = 20 := by omega
      have e3 : (128 : Int32) + nI w = nI (128 + w) := by rw [show (128 : Int32) = nI 128 from rfl, nI_add]
      have e4 : gm_up im 3 1 (nI (128 + w)) 3 1 = nI (128 + w) := gu_eq
      have e5 : ¬ nI (128 + w) = 1 := fun h => by
        have := nI_inj (a := 128 + w) (b := 1) (by omega) (by decide) h
        omega
      have hend : gm_den 64 106 [.ref 3, .ref 1, .int x2, .int (nI (w + 1))] [] 128 gm_RF (gm_up im 3 1 (nI (128 + w))) lm = some (none, 128, gm_RF, gm_up im 3 1 (nI (128 + w)), lm) := by
        rw [LX6_takeLetters_106]
        by_cases hz : Int32.ofNat 20 ≤ nI (w + 1)
        · simp (decide := true) only [QX6_takeLetters, hz, if_true]
        · simp (decide := true) only [QX6_takeLetters, hz, if_false, e4, e5, if_true, not_false_eq_true]
      rw [e1, if_neg e2, ← hend, LX6_takeLetters_106]
      simp (decide := true) only [QX6_takeLetters, hlt, if_false, h1, hin, hcl, if_true, e0, e3, nI_a1, not_true_eq_false]
    · have e0 : ¬ lg_cmp (lm 4 w) (lm 3 2) = 0 := by
        rw [lg_cmp_eq, hw w (by omega), hl]
        intro h
        exact hc (i64_inj (cwd_b ⟨w, by omega⟩) hv h)
      have e1 : wSr v (f + 1) w = wSr v f (w + 1) := by simp only [wSr]; rw [if_neg hc]
      rw [e1, ← ih (w + 1) (by omega), LX6_takeLetters_106]
      simp (decide := true) only [QX6_takeLetters, hlt, if_false, h1, hin, hcl, if_true, e0, nI_a1, not_true_eq_false, not_false_eq_true]
theorem C_takeLetters {im : gm_I} {tb : Nat → Nat} {n p : Nat} (hT : TX im tb n) (hp : p < n) (hL : txL (tb p) = true) (h3 : im 3 3 = nI p) {lm : gm_L} (hw : ∀ w, w < 20 → lm 4 w = Int64.ofNat (pkL 32 (cwd w))) (hz : lm 3 2 = 0) : ∃ im' lm', gm_den 64 0 [.ref 3, .ref 1, .int (nI n), .null] [] 128 gm_RF im lm = some (none, 128, gm_RF, im', lm') ∧ Fr [3] im im' ∧ Fr [3] lm lm' ∧ im' 3 1 = nI (tkK tb n p) ∧ im' 3 3 = nI p ∧ im' 3 4 = nI (tkE tb n p) ∧ lm' 3 2 = Int64.ofNat (tkV tb n p) := by
  have h2000 := hT.1
  have hz' : gm_up lm 3 2 (Int64.ofNat (pkG 32 (tkd tb p) (min 8 (p - p)))) = lm := by
    rw [Nat.sub_self]
    funext a b
    unfold gm_up
    by_cases ha : a = 3
    · by_cases hb : b = 2
      · rw [if_pos ha, if_pos hb, ha, hb, hz]; rfl
      · rw [if_pos ha, if_neg hb]
    · rw [if_neg ha]
  have e0 := C_lets hT h3 .null lm n p (by omega) (Nat.le_refl _) (by omega) (fun x a b => by omega)
  rw [hz'] at e0
  have hE : tkE tb n p = txR txL tb n p := by unfold tkE; rw [hL]; rfl
  have hV : tkV tb n p = pkG 32 (tkd tb p) (min 8 (txR txL tb n p - p)) := by unfold tkV; rw [hL]; rfl
  have hKd : tkK tb n p = if 8 < txR txL tb n p - p then 0 else tkWd (pkG 32 (tkd tb p) (txR txL tb n p - p)) := by unfold tkK; rw [if_neg (by omega), hL]; rfl
  rw [hE, hV, hKd]
  have hge := txR_i (p := txL) (tb := tb) (n := n) (i := p)
  have hle := txR_n (p := txL) (tb := tb) (n := n) (i := p) (by omega)
  generalize hq : txR txL tb n p = q at *
  have hin : ∀ x, p ≤ x → x < q → txL (tb x) = true := fun x a b => txR_in a (by rw [hq]; exact b)
  have hsb : nI q - nI p = nI (q - p) := nI_sub hge
  have hst : gm_den 64 0 [.ref 3, .ref 1, .int (nI n), .null] [] 128 gm_RF im lm = gm_den 64 81 [.ref 3, .ref 1, .int (nI n), .null] [] 128 gm_RF (gm_up im 3 4 (nI q)) (gm_up lm 3 2 (Int64.ofNat (pkG 32 (tkd tb p) (min 8 (q - p))))) := by
    rw [← e0]
    simp (decide := true) only [QX6_takeLetters, h3]
  have h33 : gm_up im 3 4 (nI q) 3 3 = nI p := by rw [gu_nk (by decide)]; exact h3
  have n1 : Value.category .null = 1 := rfl
  by_cases h8 : 8 < q - p
  · have h8' : ¬ nI (q - p) ≤ 8 := nI_ge (a := 8) h8 (by omega)
    refine ⟨gm_up (gm_up im 3 4 (nI q)) 3 1 0, gm_up lm 3 2 (Int64.ofNat (pkG 32 (tkd tb p) (min 8 (q - p)))), ?_, (Fr.up1 (by decide)).up (by decide), Fr.up1 (by decide), ?_, ?_, ?_, gu_eq⟩
    · have hend : gm_den 64 106 [.ref 3, .ref 1, .int (nI n), .int 0] [] 128 gm_RF (gm_up (gm_up im 3 4 (nI q)) 3 1 0) (gm_up lm 3 2 (Int64.ofNat (pkG 32 (tkd tb p) (min 8 (q - p))))) = some (none, 128, gm_RF, gm_up (gm_up im 3 4 (nI q)) 3 1 0, gm_up lm 3 2 (Int64.ofNat (pkG 32 (tkd tb p) (min 8 (q - p))))) := by
        rw [LX6_takeLetters_106]
        simp (decide := true) only [QX6_takeLetters, if_false, gu_eq, if_true, not_false_eq_true]
      rw [hst, ← hend]
      simp (decide := true) only [QX6_takeLetters, gu_eq, h33, hsb, h8', if_false, n1, if_true]
    · rw [if_pos h8]; exact gu_eq
    · rw [gu_nk (by decide)]; exact h33
    · rw [gu_nk (by decide)]; exact gu_eq
  · have h8' : nI (q - p) ≤ 8 := nI_le (b := 8) (by omega) (by decide)
    have hm : min 8 (q - p) = q - p := by omega
    rw [hm] at hst ⊢
    have hv : pkG 32 (tkd tb p) (q - p) < 2 ^ 63 := by
      rcases pkG_lt (b := 32) (d := tkd tb p) (k := q - p) (fun x hx => by
        have := txL_r (hin (p + x) (by omega) (by omega))
        show tb (p + x) - 96 < 32
        omega) with h | h
      · have : (32 : Nat) ^ (q - p) ≤ 32 ^ 8 := Nat.pow_le_pow_right (by decide) (by omega)
        have : (32 : Nat) ^ 8 < 2 ^ 63 := by decide
        omega
      · rw [h]; show (0 : Nat) < 2 ^ 63; decide
    have hend := C_words (im := gm_up (gm_up im 3 4 (nI q)) 3 1 1) (lm := gm_up lm 3 2 (Int64.ofNat (pkG 32 (tkd tb p) (q - p)))) (fun w h => by rw [gu_ne (by decide)]; exact hw w h) hv gu_eq gu_eq (nI n) 20 0 rfl
    refine ⟨_, _, hst.trans (Eq.trans ?_ hend), ?_, Fr.up1 (by decide), ?_, ?_, ?_, gu_eq⟩
    · simp (decide := true) only [QX6_takeLetters, gu_eq, h33, hsb, h8', if_true, n1]
      rfl
    · split
      · exact (Fr.up1 (by decide)).up (by decide)
      · exact ((Fr.up1 (by decide)).up (by decide)).up (by decide)
    · rw [if_neg h8]
      unfold tkWd wIx
      split
      · exact gu_eq
      · exact gu_eq
    · split
      · rw [gu_nk (by decide)]; exact h33
      · rw [gu_nk (by decide), gu_nk (by decide)]; exact h33
    · split
      · rw [gu_nk (by decide)]; exact gu_eq
      · rw [gu_nk (by decide), gu_nk (by decide)]; exact gu_eq
theorem i64_dec (v b : Nat) (h : 48 ≤ b) : Int64.ofNat v * 10 + Int64.ofNat b - 48 = Int64.ofNat (v * 10 + (b - 48)) := by
  obtain ⟨c, rfl⟩ : ∃ c, b = c + 48 := ⟨b - 48, by omega⟩
  rw [Nat.add_sub_cancel, Int64.ofNat_add, Int64.ofNat_add, Int64.ofNat_mul, Int64.sub_eq_add_neg, Int64.add_assoc, Int64.add_assoc]
  have : Int64.ofNat 48 + (-48) = 0 := by decide
  rw [this, Int64.add_zero]
  rfl
theorem C_digs {im : gm_I} {tb : Nat → Nat} {n p : Nat} (hT : TX im tb n) (h3 : im 3 3 = nI p) (lm : gm_L) : ∀ w j : Nat, n ≤ j + w → p ≤ j → j ≤ n → gm_den 65 8 [.ref 3, .ref 1, .int (nI n)] [] 128 gm_RF (gm_up im 3 4 (nI j)) (gm_up lm 3 2 (Int64.ofNat (pkG 10 (tkz tb p) (min 4 (j - p))))) = gm_den 65 78 [.ref 3, .ref 1, .int (nI n)] [] 128 gm_RF (gm_up im 3 4 (nI (txR txD tb n j))) (gm_up lm 3 2 (Int64.ofNat (pkG 10 (tkz tb p) (min 4 (txR txD tb n j - p))))) := by
  obtain ⟨h2000, hT⟩ := hT
  intro w
  induction w with
  | zero =>
    intro j h1 h2 h4
    have hle : nI n ≤ nI j := nI_le (by omega) (by omega)
    rw [txR_ge (by omega), LX6_takeDigits_8]
    simp only [QX6_takeDigits, gu_eq, hle, if_true]
  | succ w ih =>
    intro j h1 h2 h4
    by_cases hj : j < n
    · have hle : ¬ nI n ≤ nI j := nI_ge hj (by omega)
      have hin : gm_in (nI j) 2000 = true := gm_in_nI (by omega) (by decide)
      have hcl : (nI j).toNatClampNeg = j := nI_clamp (by omega)
      obtain ⟨hb, ht⟩ := hT j hj
      have ht' : gm_up im 3 4 (nI j) 1 j = byN (tb j) := by rw [gu_ne (by decide)]; exact ht
      have h3' : gm_up im 3 4 (nI j) 3 3 = nI p := by rw [gu_nk (by decide)]; exact h3
      have hsb : nI j - nI p = nI (j - p) := nI_sub h2
      cases hD : txD (tb j) with
      | true =>
        have hl := txD_r hD
        have hbn : byN (tb j) = nI (tb j) ∧ (nI (tb j)).toInt64 = Int64.ofNat (tb j) := (by_fin ⟨tb j, hb⟩).2.2.2.2.2.2.2 (by show tb j < 128; omega)
        rw [txR_go hj hD, ← ih (j + 1) (by omega) (by omega) (by omega), LX6_takeDigits_8]
        by_cases h8 : j - p < 4
        · have h8' : ¬ (4 : Int32) ≤ nI (j - p) := nI_ge (b := 4) h8 (by decide)
          have e1 : min 4 (j - p) = j - p := by omega
          have e2 : min 4 (j + 1 - p) = (j - p) + 1 := by omega
          have e3 : pkG 10 (tkz tb p) ((j - p) + 1) = pkG 10 (tkz tb p) (j - p) * 10 + (tb j - 48) := by
            show _ * 10 + tkz tb p (j - p) = _
            unfold tkz
            rw [show p + (j - p) = j by omega]
          have e6 : (byN (tb j)).toInt64 = Int64.ofNat (tb j) := by rw [hbn.1, hbn.2]
          rw [e1, e2, e3, ← i64_dec _ _ hl.1, ← e6]
          simp (decide := true) only [QX6_takeDigits, gu_eq, hle, if_false, hin, hcl, if_true, ht', C_isDigit hb, hD, b32_t, gm_cont_i, gu_gu, nI_a1, h3', hsb, h8']
        · have h8' : (4 : Int32) ≤ nI (j - p) := nI_le (a := 4) (by omega) (by omega)
          have e1 : min 4 (j - p) = 4 := by omega
          have e2 : min 4 (j + 1 - p) = 4 := by omega
          rw [e1, e2]
          simp (decide := true) only [QX6_takeDigits, gu_eq, hle, if_false, hin, hcl, if_true, ht', C_isDigit hb, hD, b32_t, gm_cont_i, gu_gu, nI_a1, h3', hsb, h8']
      | false =>
        rw [txR_no hD, LX6_takeDigits_8]
        simp (decide := true) only [QX6_takeDigits, gu_eq, hle, if_false, hin, hcl, if_true, ht', C_isDigit hb, hD, b32_f, gm_cont_i]
    · have hle : nI n ≤ nI j := nI_le (by omega) (by omega)
      rw [txR_ge (by omega), LX6_takeDigits_8]
      simp only [QX6_takeDigits, gu_eq, hle, if_true]
theorem C_takeDigits {im : gm_I} {tb : Nat → Nat} {n p : Nat} (hT : TX im tb n) (hp : p < n) (hL : txL (tb p) = false) (hD : txD (tb p) = true) (h3 : im 3 3 = nI p) {lm : gm_L} (hz : lm 3 2 = 0) : ∃ im' lm', gm_den 65 0 [.ref 3, .ref 1, .int (nI n)] [] 128 gm_RF im lm = some (none, 128, gm_RF, im', lm') ∧ Fr [3] im im' ∧ Fr [3] lm lm' ∧ im' 3 1 = nI (tkK tb n p) ∧ im' 3 3 = nI p ∧ im' 3 4 = nI (tkE tb n p) ∧ lm' 3 2 = Int64.ofNat (tkV tb n p) := by
  have h2000 := hT.1
  have hz' : gm_up lm 3 2 (Int64.ofNat (pkG 10 (tkz tb p) (min 4 (p - p)))) = lm := by
    rw [Nat.sub_self]
    funext a b
    unfold gm_up
    by_cases ha : a = 3
    · by_cases hb : b = 2
      · rw [if_pos ha, if_pos hb, ha, hb, hz]; rfl
      · rw [if_pos ha, if_neg hb]
    · rw [if_neg ha]
  have e0 := C_digs hT h3 lm n p (by omega) (Nat.le_refl _) (by omega)
  rw [hz'] at e0
  have hE : tkE tb n p = txR txD tb n p := by unfold tkE; rw [hL, hD]; rfl
  have hV : tkV tb n p = pkG 10 (tkz tb p) (min 4 (txR txD tb n p - p)) := by unfold tkV; rw [hL, hD]; rfl
  have hKd : tkK tb n p = if 4 < txR txD tb n p - p then 0 else 2 := by unfold tkK; rw [if_neg (by omega), hL, hD]; rfl
  rw [hE, hV, hKd]
  have hge := txR_i (p := txD) (tb := tb) (n := n) (i := p)
  have hle := txR_n (p := txD) (tb := tb) (n := n) (i := p) (by omega)
  generalize hq : txR txD tb n p = q at *
  have hsb : nI q - nI p = nI (q - p) := nI_sub hge
  have hst : gm_den 65 0 [.ref 3, .ref 1, .int (nI n)] [] 128 gm_RF im lm = gm_den 65 78 [.ref 3, .ref 1, .int (nI n)] [] 128 gm_RF (gm_up im 3 4 (nI q)) (gm_up lm 3 2 (Int64.ofNat (pkG 10 (tkz tb p) (min 4 (q - p))))) := by
    rw [← e0]
    simp (decide := true) only [QX6_takeDigits, h3]
  have h33 : gm_up im 3 4 (nI q) 3 3 = nI p := by rw [gu_nk (by decide)]; exact h3
  by_cases h8 : 4 < q - p
  · have h8' : ¬ nI (q - p) ≤ 4 := nI_ge (a := 4) h8 (by omega)
    refine ⟨gm_up (gm_up im 3 4 (nI q)) 3 1 0, gm_up lm 3 2 (Int64.ofNat (pkG 10 (tkz tb p) (min 4 (q - p)))), ?_, (Fr.up1 (by decide)).up (by decide), Fr.up1 (by decide), ?_, ?_, ?_, gu_eq⟩
    · rw [hst]
      simp (decide := true) only [QX6_takeDigits, gu_eq, h33, hsb, h8', if_false]
    · rw [if_pos h8]; exact gu_eq
    · rw [gu_nk (by decide)]; exact h33
    · rw [gu_nk (by decide)]; exact gu_eq
  · have h8' : nI (q - p) ≤ 4 := nI_le (b := 4) (by omega) (by decide)
    refine ⟨gm_up (gm_up im 3 4 (nI q)) 3 1 2, gm_up lm 3 2 (Int64.ofNat (pkG 10 (tkz tb p) (min 4 (q - p)))), ?_, (Fr.up1 (by decide)).up (by decide), Fr.up1 (by decide), ?_, ?_, ?_, gu_eq⟩
    · rw [hst]
      simp (decide := true) only [QX6_takeDigits, gu_eq, h33, hsb, h8', if_true]
    · rw [if_neg h8]; exact gu_eq
    · rw [gu_nk (by decide)]; exact h33
    · rw [gu_nk (by decide)]; exact gu_eq
/-- one token is cut -/
theorem C_step {im : gm_I} {tb : Nat → Nat} {n fr : Nat} (hT : TX im tb n) (hsg : ∀ j, j < 9 → im 1021 j = sgT j) (hf : fr ≤ n) {lm : gm_L} (hw : ∀ w, w < 20 → lm 4 w = Int64.ofNat (pkL 32 (cwd w))) : ∃ im' lm', gm_den 63 0 [.ref 3, .ref 1, .int (nI n), .int (nI fr)] [] 128 gm_RF im lm = some (none, 128, gm_RF, im', lm') ∧ Fr [3] im im' ∧ Fr [3] lm lm' ∧ im' 3 1 = nI (tkK tb n (txR txB tb n fr)) ∧ im' 3 3 = nI (txR txB tb n fr) ∧ (txR txB tb n fr < n → im' 3 4 = nI (tkE tb n (txR txB tb n fr)) ∧ lm' 3 2 = Int64.ofNat (tkV tb n (txR txB tb n fr))) := by
  have h2000 := hT.1
  have e0 := C_blank hT (nI fr) lm n fr (by omega) hf
  have hpn := txR_n (p := txB) (tb := tb) (n := n) (i := fr) hf
  generalize hp : txR txB tb n fr = p at *
  have hst : gm_den 63 0 [.ref 3, .ref 1, .int (nI n), .int (nI fr)] [] 128 gm_RF im lm = gm_den 63 53 [.ref 3, .ref 1, .int (nI n), .int (nI fr)] [] 128 gm_RF (gm_up (gm_up im 3 3 (nI p)) 3 4 (nI (p + 1))) (gm_up lm 3 2 0) := by
    have : gm_den 63 0 [.ref 3, .ref 1, .int (nI n), .int (nI fr)] [] 128 gm_RF im lm = gm_den 63 38 [.ref 3, .ref 1, .int (nI n), .int (nI fr)] [] 128 gm_RF (gm_up im 3 3 (nI p)) lm := by
      rw [← e0]
      simp (decide := true) only [QX6_step]
    rw [this]
    simp (decide := true) only [QX6_step, gu_eq, nI_a1]
  generalize hJ : gm_up (gm_up im 3 3 (nI p)) 3 4 (nI (p + 1)) = J at *
  have fJ : Fr [3] im J := by rw [← hJ]; exact (Fr.up1 (by decide)).up (by decide)
  have j3 : J 3 3 = nI p := by rw [← hJ, gu_nk (by decide)]; exact gu_eq
  have j4 : J 3 4 = nI (p + 1) := by rw [← hJ]; exact gu_eq
  have TJ : TX J tb n := hT.fr (fJ 1 (by decide))
  have fl : Fr [3] lm (gm_up lm 3 2 0) := Fr.up1 (by decide)
  by_cases hn : n ≤ p
  · have hlt : ¬ nI p < nI n := nI_nlt hn (by omega)
    refine ⟨gm_up J 3 1 3, gm_up lm 3 2 0, ?_, fJ.up (by decide), fl, ?_, ?_, fun h => by omega⟩
    · rw [hst]
      simp (decide := true) only [QX6_step, j3, hlt, if_false]
    · unfold tkK; rw [if_pos hn]; exact gu_eq
    · rw [gu_nk (by decide)]; exact j3
  · have hpn2 : p < n := by omega
    have hlt : nI p < nI n := nI_lt hpn2 (by omega)
    have hin : gm_in (nI p) 2000 = true := gm_in_nI (by omega) (by decide)
    have hcl : (nI p).toNatClampNeg = p := nI_clamp (by omega)
    obtain ⟨hb, ht⟩ := TJ.2 p hpn2
    cases hL : txL (tb p) with
    | true =>
      obtain ⟨im', lm', k1, k2, k3, k4, k5, k6, k7⟩ := C_takeLetters TJ hpn2 hL j3 (lm := gm_up lm 3 2 0) (fun w h => by rw [gu_ne (by decide)]; exact hw w h) gu_eq
      refine ⟨im', lm', ?_, fJ.tr k2, fl.tr k3, k4, k5, fun _ => ⟨k6, k7⟩⟩
      rw [hst]
      simp (decide := true) only [QX6_step, j3, hlt, if_true, hin, hcl, ht, C_isLetter hb, hL, b32_t, gm_cont_i, if_false, k1, gm_cont_v]
    | false =>
      cases hD : txD (tb p) with
      | true =>
        obtain ⟨im', lm', k1, k2, k3, k4, k5, k6, k7⟩ := C_takeDigits TJ hpn2 hL hD j3 (lm := gm_up lm 3 2 0) gu_eq
        refine ⟨im', lm', ?_, fJ.tr k2, fl.tr k3, k4, k5, fun _ => ⟨k6, k7⟩⟩
        rw [hst]
        simp (decide := true) only [QX6_step, j3, hlt, if_true, hin, hcl, ht, C_isLetter hb, C_isDigit hb, hL, hD, b32_t, b32_f, gm_cont_i, if_false, k1, gm_cont_v]
      | false =>
        have hbf := by_fin ⟨tb p, hb⟩
        simp only [] at hbf
        have hK : tkK tb n p = tkSg (tb p) := by unfold tkK; rw [if_neg hn, hL, hD]; rfl
        have hE : tkE tb n p = p + 1 := by unfold tkE; rw [hL, hD]; rfl
        have hV : tkV tb n p = 0 := by unfold tkV; rw [hL, hD]; rfl
        obtain ⟨r, s1, s2⟩ := C_sgn (im := J) (fun j h => by rw [fJ 1021 (by decide)]; exact hsg j h) hb (gm_up lm 3 2 0)
        rw [hK, hE, hV]
        by_cases h0 : tkSg (tb p) = 0
        · have hr : ¬ 0 ≤ r := fun h => (s2.mp h) h0
          refine ⟨gm_up J 3 1 0, gm_up lm 3 2 0, ?_, fJ.up (by decide), fl, ?_, ?_, fun _ => ⟨?_, gu_eq⟩⟩
          · rw [hst]
            simp (decide := true) only [QX6_step, j3, hlt, if_true, hin, hcl, ht, C_isLetter hb, C_isDigit hb, hL, hD, b32_f, gm_cont_i, if_false, hbf.2.1, hbf.2.2.1, s1, hr]
          · rw [h0]; exact gu_eq
          · rw [gu_nk (by decide)]; exact j3
          · rw [gu_nk (by decide)]; exact j4
        · have hr : 0 ≤ r := s2.mpr h0
          refine ⟨gm_up J 3 1 (byN (tb p)), gm_up lm 3 2 0, ?_, fJ.up (by decide), fl, ?_, ?_, fun _ => ⟨?_, gu_eq⟩⟩
          · rw [hst]
            simp (decide := true) only [QX6_step, j3, hlt, if_true, hin, hcl, ht, C_isLetter hb, C_isDigit hb, hL, hD, b32_f, gm_cont_i, if_false, hbf.2.1, hbf.2.2.1, s1, hr]
          · rw [gu_eq]; exact sg_byN ⟨tb p, hb⟩ h0
          · rw [gu_nk (by decide)]; exact j3
          · rw [gu_nk (by decide)]; exact j4
