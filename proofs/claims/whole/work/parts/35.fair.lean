/-! the class: the harshest juror, the fairest jury, what falls by seeds -/
def gG (f : Nat → Bool) (T : Nat → Nat) : Nat → Nat
  | 0 => 0
  | a + 1 => if f a then gG f T a + T a else gG f T a
theorem gG_gN (f : Nat → Bool) (P T : Nat → Nat) (n : Nat) (h : ∀ a, a < n → f a = true → P a < 3) : gN f P T 0 n + gN f P T 1 n + gN f P T 2 n = gG f T n := by
  induction n with
  | zero => rfl
  | succ n ih =>
    have ih1 := ih (fun a ha => h a (by omega))
    simp only [gN, gG]
    by_cases hf : f n = true
    · have : P n = 0 ∨ P n = 1 ∨ P n = 2 := by have := h n (by omega) hf; omega
      rcases this with e | e | e <;> simp [hf, e] <;> omega
    · simp [hf]; omega
theorem gG_le (f : Nat → Bool) (T : Nat → Nat) (n M : Nat) (h : ∀ a, a < n → T a ≤ M) : gG f T n ≤ M * n := by
  induction n with
  | zero => simp [gG]
  | succ n ih =>
    have h1 := ih (fun a ha => h a (by omega))
    have h2 := h n (by omega)
    simp only [gG]
    rw [Nat.mul_succ]
    split <;> omega
theorem gG_ext {f g : Nat → Bool} {T U : Nat → Nat} {n : Nat} (h1 : ∀ a, a < n → f a = g a) (h2 : ∀ a, a < n → g a = true → T a = U a) : gG f T n = gG g U n := by
  induction n with
  | zero => rfl
  | succ n ih =>
    simp only [gG]
    rw [ih (fun a ha => h1 a (by omega)) (fun a ha => h2 a (by omega)), h1 n (by omega)]
    by_cases hg : g n = true
    · rw [if_pos hg, if_pos hg, h2 n (by omega) hg]
    · rw [if_neg hg, if_neg hg]
/-- what one juror marks of all -/
def jM (B : gm_I) (v : Nat → Nat → Int32) (j a : Nat) : Nat := vMn B (v a) j (vGd B (v a))
theorem bagJ1 {B : gm_I} (f : Nat → Bool) {nm : Nat} (v : Nat → Nat → Int32) (hp : ∀ a, a < nm → f a = true → pOk (v a)) (k : Nat) : gL f (fun b => eJ B (v b) k) nm = bag (fun s => gN f (fun a => pN (v a)) (jM B v k) s nm) (fun _ => 0) := by
  induction nm with
  | zero => rfl
  | succ n ih =>
    have ih1 := ih (fun a ha => hp a (by omega))
    simp only [gL, gN]
    by_cases hf : f n = true
    · obtain ⟨h1, h2⟩ := hp n (by omega) hf
      obtain ⟨h3, h4, h5⟩ := vMn_ok B (v n) k (vGd B (v n))
      rw [if_pos hf, ih1]
      have e : eJ B (v n) k = Int64.ofNat (jM B v k n * 2 ^ (16 * pN (v n))) := by
        unfold eJ
        rw [h1, h3, show (0 : Int32) = nI 0 from rfl, sPart_ok h2 (by omega), sPart_ok h2 (by omega)]
        have : (4096 + vMn B (v n) k (vGd B (v n))) * 2 ^ (16 * pN (v n)) = jM B v k n * 2 ^ (16 * pN (v n)) + (4096 + 0) * 2 ^ (16 * pN (v n)) := by
          rw [← Nat.add_mul]; congr 1; unfold jM; omega
        rw [this, Int64.ofNat_add, Int64.add_sub_cancel]
      rw [e]
      unfold bag
      rw [← Int64.ofNat_add]
      congr 1
      unfold gX
      have : pN (v n) = 0 ∨ pN (v n) = 1 ∨ pN (v n) = 2 := by omega
      rcases this with e | e | e <;> simp only [hf, Bool.true_and, e, beq_iff_eq, Nat.reduceEqDiff, if_true, if_false, Nat.reduceMul, Nat.reducePow] <;> (try simp) <;> omega
    · simp only [hf, Bool.false_and]
      simpa using ih1
def hB (kind : Bool) (g : Nat → Nat) : Nat → Option Nat
  | 0 => none
  | j + 1 => match hB kind g j with
    | none => some j
    | some b => if (if kind then g b < g j else g j < g b) then some j else some b
theorem hB_lt {kind : Bool} {g : Nat → Nat} {n b : Nat} (h : hB kind g n = some b) : b < n := by
  induction n generalizing b with
  | zero => cases h
  | succ n ih =>
    simp only [hB] at h
    cases hg : hB kind g n with
    | none => rw [hg] at h; cases h; omega
    | some c => rw [hg] at h; simp only [] at h; have := ih hg
                cases kind <;> simp only [Bool.false_eq_true, if_true, if_false] at h <;> split at h <;> cases h <;> omega
theorem C_hh_in (im : gm_I) (lm : gm_L) (x1 x2 x3 : Int32) (j : Nat) (hj : j < 8) (S : Nat → Nat) (hS : ∀ s, s < 3 → S s ≤ 504) (hb : lm 78 j = bag S (fun _ => 0)) : gm_den 23 26 [.ref 71, .int x1, .int x2, .int x3, .int (nI j), .int 0, .int 0] [] 128 gm_RF im lm = gm_den 23 55 [.ref 71, .int x1, .int x2, .int x3, .int (nI j), .int (nI (S 0 + S 1 + S 2)), .int (nI 3)] [] 128 gm_RF im lm := by
  have hl : lanes S (fun _ => 0) := fun s hs => ⟨hS s hs, by simp⟩
  have st : ∀ (s g : Nat), s < 3 → gm_den 23 26 [.ref 71, .int x1, .int x2, .int x3, .int (nI j), .int (nI g), .int (nI s)] [] 128 gm_RF im lm = gm_den 23 26 [.ref 71, .int x1, .int x2, .int x3, .int (nI j), .int (nI (g + S s)), .int (nI (s + 1))] [] 128 gm_RF im lm := by
    intro s g hs
    have h3 : ¬ (3 : Int32) ≤ nI s := nI_ge (b := 3) hs (by decide)
    have ht := C_total hl hs im lm .null
    rw [LX0_harshest_26]
    simp only [QX0_harshest, h3, if_false, i8 j hj, if_true, hb, ht, gm_cont_i, nI_add, nI_a1]
  have e0 : gm_den 23 26 [.ref 71, .int x1, .int x2, .int x3, .int (nI j), .int 0, .int 0] [] 128 gm_RF im lm = gm_den 23 26 [.ref 71, .int x1, .int x2, .int x3, .int (nI j), .int (nI 0), .int (nI 0)] [] 128 gm_RF im lm := rfl
  rw [e0, st 0 0 (by decide), st 1 _ (by decide), st 2 _ (by decide), LX0_harshest_26]
  simp (decide := true) only [QX0_harshest, if_true, Nat.zero_add]
theorem C_hh_loop {B : gm_I} {l nm nk nj ns : Nat} (hR : iRoll B l nm nk nj ns) (im : gm_I) (ho : Off B im) (lm : gm_L) (kind : Bool) (S : Nat → Nat → Nat) (hS : ∀ j s, j < nj → s < 3 → S j s ≤ 504) (hb : ∀ j, j < nj → lm 78 j = bag (S j) (fun _ => 0)) : ∀ (w j : Nat) (x5 x6 : Value), j + w = nj → x5.category = 1 → x6.category = 1 → gm_den 23 8 [.ref 71, .int (b32 kind), .int (eO (hB kind (fun j => S j 0 + S j 1 + S j 2) j)), .int (nI (oS (fun j => S j 0 + S j 1 + S j 2) (hB kind (fun j => S j 0 + S j 1 + S j 2) j))), .int (nI j), x5, x6] [] 128 gm_RF im lm = some (some (.int (eO (hB kind (fun j => S j 0 + S j 1 + S j 2) nj))), 128, gm_RF, im, lm) := by
  intro w
  have hn8 := iR_nj hR
  induction w with
  | zero =>
    intro j x5 x6 hw c5 c6
    have : j = nj := by omega
    subst this
    rw [LX0_harshest_8]
    simp only [QX0_harshest, iR_114 hR ho, nI_le (Nat.le_refl j) (show j < 2 ^ 31 by omega), if_true]
  | succ w ih =>
    intro j x5 x6 hw c5 c6
    have ih1 := ih (j + 1) (.int (nI (S j 0 + S j 1 + S j 2))) (.int (nI 3)) (by omega) rfl rfl
    have hlt : ¬ nI nj ≤ nI j := nI_ge (by omega) (by omega)
    rw [LX0_harshest_8]
    have hin := fun x1 x2 x3 => C_hh_in im lm x1 x2 x3 j (by omega) (S j) (fun s hs => hS j s (by omega) hs) (hb j (by omega))
    have b0 := hS j 0 (by omega) (by decide)
    have b1 := hS j 1 (by omega) (by decide)
    have b2 := hS j 2 (by omega) (by decide)
    cases hg : hB kind (fun j => S j 0 + S j 1 + S j 2) j with
    | none =>
      simp only [hB, hg, eO, oS] at ih1
      simp (decide := true) only [QX0_harshest, iR_114 hR ho, hlt, if_false, if_true, gm_cat_i, c5, c6, hin, eO, nI_a1]
      exact ih1
    | some b =>
      have hbj := hB_lt hg
      have d0 := hS b 0 (by omega) (by decide)
      have d1 := hS b 1 (by omega) (by decide)
      have d2 := hS b 2 (by omega) (by decide)
      have hne : ¬ nI b = -2 := by
        have : b = 0 ∨ b = 1 ∨ b = 2 ∨ b = 3 ∨ b = 4 ∨ b = 5 ∨ b = 6 ∨ b = 7 := by omega
        rcases this with rfl | rfl | rfl | rfl | rfl | rfl | rfl | rfl <;> decide
      simp only [hB, hg] at ih1
      cases kind with
      | true =>
        simp only [if_true] at ih1
        by_cases hc : S b 0 + S b 1 + S b 2 < S j 0 + S j 1 + S j 2
        · have hx : ¬ nI (S j 0 + S j 1 + S j 2) ≤ nI (S b 0 + S b 1 + S b 2) := nI_ge hc (by omega)
          simp only [hc, if_true, eO, oS] at ih1
          simp (decide := true) only [QX0_harshest, iR_114 hR ho, hlt, if_false, if_true, gm_cat_i, c5, c6, hin, eO, oS, hne, b32, hx, nI_a1]
          exact ih1
        · have hx : nI (S j 0 + S j 1 + S j 2) ≤ nI (S b 0 + S b 1 + S b 2) := nI_le (by omega) (by omega)
          simp only [hc, if_false, eO, oS] at ih1
          simp (decide := true) only [QX0_harshest, iR_114 hR ho, hlt, if_false, if_true, gm_cat_i, c5, c6, hin, eO, oS, hne, b32, hx, nI_a1]
          exact ih1
      | false =>
        simp only [Bool.false_eq_true, if_false] at ih1
        by_cases hc : S j 0 + S j 1 + S j 2 < S b 0 + S b 1 + S b 2
        · have hx : ¬ nI (S b 0 + S b 1 + S b 2) ≤ nI (S j 0 + S j 1 + S j 2) := nI_ge hc (by omega)
          simp only [hc, if_true, eO, oS] at ih1
          simp (decide := true) only [QX0_harshest, iR_114 hR ho, hlt, if_false, if_true, gm_cat_i, c5, c6, hin, eO, oS, hne, b32, hx, nI_a1]
          exact ih1
        · have hx : nI (S b 0 + S b 1 + S b 2) ≤ nI (S j 0 + S j 1 + S j 2) := nI_le (by omega) (by omega)
          simp only [hc, if_false, eO, oS] at ih1
          simp (decide := true) only [QX0_harshest, iR_114 hR ho, hlt, if_false, if_true, gm_cat_i, c5, c6, hin, eO, oS, hne, b32, hx, nI_a1]
          exact ih1
theorem C_harshest {B : gm_I} {l nm nk nj ns : Nat} (hR : iRoll B l nm nk nj ns) (im : gm_I) (ho : Off B im) (lm : gm_L) (kind : Bool) (S : Nat → Nat → Nat) (hS : ∀ j s, j < nj → s < 3 → S j s ≤ 504) (hb : ∀ j, j < nj → lm 78 j = bag (S j) (fun _ => 0)) : gm_den 23 0 [.ref 71, .int (b32 kind), .null, .null, .null, .null, .null] [] 128 gm_RF im lm = some (some (.int (eO (hB kind (fun j => S j 0 + S j 1 + S j 2) nj))), 128, gm_RF, im, lm) := by
  have h1 := C_hh_loop hR im ho lm kind S hS hb nj 0 .null .null (by omega) rfl rfl
  have n1 : Value.category .null = 1 := rfl
  simp only [QX0_harshest, gm_cat_i, gm_cat_r, n1]
  exact h1
/-- the fairest jury of n -/
def frF (n : Nat) (X : Nat → Nat) (x : Option Nat) (J : Nat) : Option Nat := if pc J = n then (match x with
  | none => some J
  | some b => if X J < X b then some J else some b) else x
theorem frF_lt {n k : Nat} {X : Nat → Nat} {b : Nat} (h : fI (frF n X) none k = some b) : b < k ∧ pc b = n := by
  induction k generalizing b with
  | zero => cases h
  | succ k ih =>
    simp only [fI, frF] at h
    by_cases hp : pc k = n
    · rw [if_pos hp] at h
      cases hg : fI (frF n X) none k with
      | none => rw [hg] at h; cases h; exact ⟨by omega, hp⟩
      | some c => rw [hg] at h; simp only [] at h; have := ih hg; split at h <;> cases h
                  · exact ⟨by omega, hp⟩
                  · exact ⟨by omega, this.2⟩
    · rw [if_neg hp] at h
      have := ih h
      exact ⟨by omega, this.2⟩
theorem gEx_le {S N : Nat → Nat} (h : lanes S N) (hp : pos S N) : gEx S N ≤ 3528 * 117649 := by
  unfold gEx
  cases hg : gw S N 3 with
  | none => simp
  | some a =>
    obtain ⟨ha, ha0, ham⟩ := gw_max hp hg
    simp only []
    cases hg2 : gl S N 3 with
    | none => simp
    | some b =>
      obtain ⟨hb, hb0, -⟩ := gl_min hp (by decide) hg2
      have hA := h a ha
      have hB := h b hb
      have m1 : S a * N b ≤ 504 * 7 := Nat.mul_le_mul hA.1 hB.2
      have hfa : ∀ s, s < 3 → fa N s * fa N s ≤ 49 := fun s hs => by
        have := h s hs
        have : fa N s ≤ 7 := by unfold fa; split <;> omega
        exact Nat.mul_le_mul this this
      have hall : gall N 3 ≤ 117649 := by
        have a1 : gall N 1 ≤ 1 * 49 := Nat.mul_le_mul (Nat.le_refl 1) (hfa 0 (by decide))
        have a2 : gall N 2 ≤ (1 * 49) * 49 := Nat.mul_le_mul a1 (hfa 1 (by decide))
        exact Nat.mul_le_mul a2 (hfa 2 (by decide))
      have hd : gall N 3 / (N a * N b) ≤ 117649 := Nat.le_trans (Nat.div_le_self _ _) hall
      exact Nat.mul_le_mul (by omega) hd
theorem eO_256 {b : Nat} (h : b < 256) : ¬ nI b = -2 := by
  intro e
  have : (nI b).toInt = (-2 : Int32).toInt := by rw [e]
  rw [nI_toInt (by omega)] at this
  have h2 : (-2 : Int32).toInt = -2 := by decide
  omega
theorem i2pow8 {n : Nat} (h : n ≤ 8) : 2 ^ n ≤ 256 := Nat.pow_le_pow_right (n := 2) (by decide) h
theorem C_fair_loop {B : gm_I} {l nm nk nj ns : Nat} (hR : iRoll B l nm nk nj ns) (im : gm_I) (ho : Off B im) (lm : gm_L) (n : Nat) (hn : n ≤ 8) (S : Nat → Nat → Nat) (N : Nat → Nat) (hL : ∀ J, J < 256 → lanes (S J) N ∧ pos (S J) N ∧ lm 71 12 + gL (fun j => J.testBit j) (lm 78) nj = bag (S J) N) : ∀ (w J : Nat) (x5 : Value), J + w = 2 ^ nj → x5.category = 1 → gm_den 22 8 [.ref 71, .int (nI n), .int (eO (fI (frF n (fun J => gEx (S J) N)) none J)), .int (nI (oS (fun J => gEx (S J) N) (fI (frF n (fun J => gEx (S J) N)) none J))), .int (nI J), x5] [] 128 gm_RF im lm = some (some (.int (eO (fI (frF n (fun J => gEx (S J) N)) none (2 ^ nj)))), 128, gm_RF, im, lm) := by
  intro w
  have hn8 := iR_nj hR
  have h256 := i2pow8 hn8
  induction w with
  | zero =>
    intro J x5 hw c5
    have : J = 2 ^ nj := by omega
    subst this
    rw [LX0_fairest_8]
    simp only [QX0_fairest, iR_114 hR ho, pow2 (show nj < 9 by omega), nI_le (Nat.le_refl (2 ^ nj)) (show 2 ^ nj < 2 ^ 31 by omega), if_true]
  | succ w ih =>
    intro J x5 hw c5
    have hJ : J < 256 := by omega
    have hlt : ¬ nI (2 ^ nj) ≤ nI J := nI_ge (by omega) (by omega)
    obtain ⟨hla, hpo, hba⟩ := hL J hJ
    have hbg := C_bagOf hR im ho lm J hJ
    rw [hba] at hbg
    have hap := C_apartExactly hla hpo im lm
    have hle := gEx_le hla hpo
    rw [LX0_fairest_8]
    by_cases hpc : pc J = n
    · have ih1 := ih (J + 1) (.int (nI (gEx (S J) N))) (by omega) rfl
      simp only [fI] at ih1
      cases hg : fI (frF n (fun J => gEx (S J) N)) none J with
      | none =>
        have e : frF n (fun J => gEx (S J) N) none J = some J := by simp [frF, hpc]
        rw [hg, e] at ih1
        simp only [eO, oS] at ih1
        simp (decide := true) only [QX0_fairest, iR_114 hR ho, pow2 (show nj < 9 by omega), hlt, if_false, if_true, J_bitCount hJ, gm_cont_i, gm_cont_l, hpc, hbg, hap, gm_cat_i, c5, eO, nI_a1]
        exact ih1
      | some b =>
        obtain ⟨hb1, hb2⟩ := frF_lt hg
        obtain ⟨hla', hpo', -⟩ := hL b (by omega)
        have hle' := gEx_le hla' hpo'
        have hne := eO_256 (show b < 256 by omega)
        by_cases hc : gEx (S J) N < gEx (S b) N
        · have e : frF n (fun J => gEx (S J) N) (some b) J = some J := by simp [frF, hpc, hc]
          rw [hg, e] at ih1
          simp only [eO, oS] at ih1
          have hx : ¬ nI (gEx (S b) N) ≤ nI (gEx (S J) N) := nI_ge hc (by omega)
          simp (decide := true) only [QX0_fairest, iR_114 hR ho, pow2 (show nj < 9 by omega), hlt, if_false, if_true, J_bitCount hJ, gm_cont_i, gm_cont_l, hpc, hbg, hap, gm_cat_i, c5, eO, oS, hne, hx, nI_a1]
          exact ih1
        · have e : frF n (fun J => gEx (S J) N) (some b) J = some b := by simp [frF, hpc, hc]
          rw [hg, e] at ih1
          simp only [eO, oS] at ih1
          have hx : nI (gEx (S b) N) ≤ nI (gEx (S J) N) := nI_le (by omega) (by omega)
          simp (decide := true) only [QX0_fairest, iR_114 hR ho, pow2 (show nj < 9 by omega), hlt, if_false, if_true, J_bitCount hJ, gm_cont_i, gm_cont_l, hpc, hbg, hap, gm_cat_i, c5, eO, oS, hne, hx, nI_a1]
          exact ih1
    · have ih1 := ih (J + 1) x5 (by omega) c5
      have e : fI (frF n (fun J => gEx (S J) N)) none (J + 1) = fI (frF n (fun J => gEx (S J) N)) none J := by simp [fI, frF, hpc]
      rw [e] at ih1
      have hpc8 := pc_le ⟨J, hJ⟩
      have hx : ¬ nI (pc J) = nI n := fun e => hpc (by
        have h1 := nI_clamp (show pc J < 2 ^ 31 by simp only [] at hpc8; omega)
        rw [e, nI_clamp (by omega)] at h1
        exact h1.symm)
      simp (decide := true) only [QX0_fairest, iR_114 hR ho, pow2 (show nj < 9 by omega), hlt, if_false, if_true, J_bitCount hJ, gm_cont_i, hx, nI_a1, not_false_eq_true]
      exact ih1
theorem C_fairest {B : gm_I} {l nm nk nj ns : Nat} (hR : iRoll B l nm nk nj ns) (im : gm_I) (ho : Off B im) (lm : gm_L) (n : Nat) (h0 : n ≠ 0) (hn : n ≤ 8) (S : Nat → Nat → Nat) (N : Nat → Nat) (hL : ∀ J, J < 256 → lanes (S J) N ∧ pos (S J) N ∧ lm 71 12 + gL (fun j => J.testBit j) (lm 78) nj = bag (S J) N) : gm_den 22 0 [.ref 71, .int (nI n), .null, .null, .null, .null] [] 128 gm_RF im lm = some (some (.int (eO (fI (frF n (fun J => gEx (S J) N)) none (2 ^ nj)))), 128, gm_RF, im, lm) := by
  have hp := Nat.pow_pos (n := nj) (show 0 < 2 by decide)
  have e : fI (frF n (fun J => gEx (S J) N)) none 1 = none := by
    have : ¬ pc 0 = n := fun e => h0 (by rw [← e]; rfl)
    simp [fI, frF, this]
  have h1 := C_fair_loop hR im ho lm n hn S N hL (2 ^ nj - 1) 1 .null (by omega) rfl
  rw [e] at h1
  have n1 : Value.category .null = 1 := rfl
  simp only [QX0_fairest, gm_cat_i, gm_cat_r, n1]
  exact h1
