/-! folds over men and over sets of men -/
def fI {α : Type} (g : α → Nat → α) (z : α) : Nat → α
  | 0 => z
  | i + 1 => g (fI g z i) i
def fA {α : Type} (f : Nat → Bool) (g : α → Nat → α) (z : α) : Nat → α
  | 0 => z
  | a + 1 => if f a then g (fA f g z a) a else fA f g z a
theorem fI_ext {α : Type} {g h : α → Nat → α} {z : α} {n : Nat} (e : ∀ x i, i < n → g x i = h x i) : fI g z n = fI h z n := by
  induction n with
  | zero => rfl
  | succ n ih => simp only [fI]; rw [ih (fun x i hi => e x i (by omega)), e _ n (by omega)]
theorem fA_ext {α : Type} {f k : Nat → Bool} {g h : α → Nat → α} {z : α} {n : Nat} (e0 : ∀ a, a < n → f a = k a) (e : ∀ x a, a < n → k a = true → g x a = h x a) : fA f g z n = fA k h z n := by
  induction n with
  | zero => rfl
  | succ n ih =>
    simp only [fA]
    rw [ih (fun a ha => e0 a (by omega)) (fun x a ha => e x a (by omega)), e0 n (by omega)]
    by_cases hk : k n = true
    · rw [if_pos hk, if_pos hk, e _ n (by omega) hk]
    · rw [if_neg hk, if_neg hk]
theorem fI_gc {α : Type} (f : Nat → Bool) (g : α → Nat → α) (z : α) (n : Nat) : fI g z (gc f n) = fA f (fun x a => g x (gc f a)) z n := by
  induction n with
  | zero => rfl
  | succ n ih =>
    simp only [gc, fA]
    by_cases hf : f n = true
    · simp only [hf, if_true, fI, ih]
    · rw [if_neg hf, if_neg hf]; exact ih
theorem fI_wh {α : Type} (f : Nat → Bool) (g : α → Nat → Nat → α) (z : α) (n : Nat) : fI (fun x i => g x (wh f n i) i) z (gc f n) = fA f (fun x a => g x a (gc f a)) z n := by
  rw [fI_gc]
  exact fA_ext (fun _ _ => rfl) (fun x a ha hf => by simp only [wh_gc f ha hf])
theorem gL_fA (f : Nat → Bool) (E : Nat → Int64) (n : Nat) : gL f E n = fA f (fun x a => x + E a) 0 n := by
  induction n with
  | zero => rfl
  | succ n ih => simp only [gL, fA, ih]
theorem sL_fI (F : Nat → Int64) (n : Nat) : sL F n = fI (fun x i => x + F i) 0 n := by
  induction n with
  | zero => rfl
  | succ n ih => simp only [sL, fI, ih]
theorem gM_fA (f : Nat → Bool) (g : Nat → Bool) (n : Nat) : fA f (fun x a => if g a then x + 2 ^ a else x) 0 n = gM (fun a => f a && g a) n := by
  induction n with
  | zero => rfl
  | succ n ih =>
    simp only [gM, fA, ih]
    by_cases h1 : f n = true <;> by_cases h2 : g n = true <;> simp [h1, h2]
/-- lowest bit, number of bits -/
def lb (M : Nat) : Nat := if M.testBit 0 then 0 else if M.testBit 1 then 1 else if M.testBit 2 then 2 else if M.testBit 3 then 3 else if M.testBit 4 then 4 else if M.testBit 5 then 5 else 6
def pc (M : Nat) : Nat := gc (fun i => M.testBit i) 8
theorem lb_all : ∀ M : Fin 128, 0 < M.val → lb M.val < 7 ∧ M.val.testBit (lb M.val) = true ∧ (nI M.val &&& (nI M.val - 1)) = nI (M.val &&& (M.val - 1)) ∧ (M.val &&& (M.val - 1)) < M.val ∧ ((nI M.val ^^^ -1) &&& (nI M.val - 1)) = nI (2 ^ lb M.val - 1) ∧ ∀ i : Fin 7, (M.val &&& (M.val - 1)).testBit i.val = (M.val.testBit i.val && (i.val != lb M.val)) := by decide +kernel
theorem J_ntz {M : Nat} (h0 : 0 < M) (hM : M < 128) (im : gm_I) (lm : gm_L) : gm_den 277 0 [.int (nI M), .null] [] 128 gm_RF im lm = some (some (.int (nI (lb M))), 128, gm_RF, im, lm) := by
  obtain ⟨h1, -, -, -, h2, -⟩ := lb_all ⟨M, hM⟩ h0
  simp only [] at h1 h2
  have n1 : Value.category .null = 1 := rfl
  have : lb M = 0 ∨ lb M = 1 ∨ lb M = 2 ∨ lb M = 3 ∨ lb M = 4 ∨ lb M = 5 ∨ lb M = 6 := by omega
  rcases this with e | e | e | e | e | e | e <;> rw [e] at h2 <;> rw [e] <;> simp (decide := true) only [QJ6_numberOfTrailingZeros_0f7a4, h2, if_true, if_false, gm_cat_i, n1] <;> rfl
def fBC (x : Int32) : Int32 :=
  let a := x - ((x.toUInt32 >>> (Int32.toUInt32 1 &&& Int32.toUInt32 31)).toInt32 &&& 1431655765)
  let b := (a &&& 858993459) + ((a.toUInt32 >>> (Int32.toUInt32 2 &&& Int32.toUInt32 31)).toInt32 &&& 858993459)
  let c := (b + (b.toUInt32 >>> (Int32.toUInt32 4 &&& Int32.toUInt32 31)).toInt32) &&& 252645135
  let d := c + (c.toUInt32 >>> (Int32.toUInt32 8 &&& Int32.toUInt32 31)).toInt32
  let e := d + (d.toUInt32 >>> (Int32.toUInt32 16 &&& Int32.toUInt32 31)).toInt32
  e &&& 63
theorem fBC_all : ∀ M : Fin 256, fBC (nI M.val) = nI (pc M.val) := by decide +kernel
theorem J_bitCount {M : Nat} (hM : M < 256) (im : gm_I) (lm : gm_L) : gm_den 278 0 [.int (nI M)] [] 128 gm_RF im lm = some (some (.int (nI (pc M))), 128, gm_RF, im, lm) := by
  rw [← fBC_all ⟨M, hM⟩]
  simp only [QJ6_bitCount_0f7a4, fBC]
theorem bc_all : ∀ M : Fin 256, ∀ i : Fin 8, (nI M.val >>> (nI i.val &&& 31)) &&& 1 = b32 (M.val.testBit i.val) := by decide +kernel
theorem bitn {M i : Nat} (hM : M < 256) (hi : i < 8) : (nI M >>> (nI i &&& 31)) &&& 1 = b32 (M.testBit i) := bc_all ⟨M, hM⟩ ⟨i, hi⟩
theorem pow_all : ∀ i : Fin 9, (1 : Int32) <<< (nI i.val &&& 31) = nI (2 ^ i.val) := by decide +kernel
theorem pow2 {i : Nat} (hi : i < 9) : (1 : Int32) <<< (nI i &&& 31) = nI (2 ^ i) := pow_all ⟨i, hi⟩
theorem i128 (s : Nat) (hs : s < 128) : gm_in (nI s) 128 = true ∧ (nI s).toNatClampNeg = s := ⟨gm_in_nI hs (by decide), nI_clamp (by omega)⟩
theorem p27 {n : Nat} (h : n ≤ 7) : 2 ^ n ≤ 128 := Nat.pow_le_pow_right (n := 2) (by decide) h
/-- a bag by the set of those turned -/
def dBag (us tu : Nat → Int64) (n set : Nat) : Int64 := sL (fun i => if set.testBit i then tu i else us i) n
theorem sL_one (F G : Nat → Int64) (k n : Nat) (hk : k < n) (h : ∀ i, i < n → i ≠ k → F i = G i) : sL F n = sL G n - G k + F k := by
  induction n with
  | zero => omega
  | succ n ih =>
    simp only [sL]
    by_cases e : k = n
    · subst e
      rw [sL_ext (fun i hi => h i (by omega) (by omega))]
      generalize sL G k = x
      rw [Int64.add_sub_cancel]
    · rw [ih (by omega) (fun i hi => h i (by omega)), h n (by omega) (by omega)]
      generalize sL G n = x
      generalize G k = y
      generalize F k = z
      generalize G n = u
      rw [Int64.sub_eq_add_neg, Int64.sub_eq_add_neg]
      ac_rfl
theorem dBag_step (us tu : Nat → Int64) {n set : Nat} (hn : n ≤ 7) (h0 : 0 < set) (hs : set < 2 ^ n) : lb set < n ∧ (set &&& (set - 1)) < set ∧ nI set &&& (nI set - 1) = nI (set &&& (set - 1)) ∧ dBag us tu n set = dBag us tu n (set &&& (set - 1)) - us (lb set) + tu (lb set) := by
  have h7 := p27 hn
  obtain ⟨h1, h2, h3, h4, -, h5⟩ := lb_all ⟨set, by omega⟩ h0
  simp only [] at h1 h2 h3 h4 h5
  have hl : lb set < n := by
    apply Classical.byContradiction
    intro hc
    have : set < 2 ^ lb set := Nat.lt_of_lt_of_le hs (Nat.pow_le_pow_right (by decide) (by omega))
    rw [Nat.testBit_lt_two_pow this] at h2
    cases h2
  refine ⟨hl, h4, h3, ?_⟩
  unfold dBag
  rw [sL_one (fun i => if set.testBit i then tu i else us i) (fun i => if (set &&& (set - 1)).testBit i then tu i else us i) (lb set) n hl]
  · have h6 := h5 ⟨lb set, h1⟩
    simp only [] at h6
    simp [h6, h2]
  · intro i hi hne
    have h6 := h5 ⟨i, by omega⟩
    simp only [] at h6
    have : (i != lb set) = true := by simp [hne]
    simp only [h6, this, Bool.and_true]
theorem C_fillBags_loop (im : gm_I) (n : Nat) (hn : im 71 4 = nI n) (h7 : n ≤ 7) (us tu : Nat → Int64) : ∀ (w set : Nat) (lm : gm_L) (x2 : Value), set + w = 2 ^ n → 0 < set → lm 73 = us → lm 74 = tu → (∀ s, s < set → lm 75 s = dBag us tu n s) → x2.category = 1 → ∃ lm', gm_den 7 12 [.ref 71, .int (nI set), x2] [] 128 gm_RF im lm = some (none, 128, gm_RF, im, lm') ∧ (∀ s, s < 2 ^ n → lm' 75 s = dBag us tu n s) ∧ Fr [75] lm lm' := by
  have hp := p27 h7
  intro w
  induction w with
  | zero =>
    intro set lm x2 hw h0 hu ht hb c2
    have : set = 2 ^ n := by omega
    subst this
    refine ⟨lm, ?_, hb, Fr.rf _ _⟩
    rw [LX0_fillBags_12]
    simp only [QX0_fillBags, hn, pow2 (show n < 9 by omega), nI_le (Nat.le_refl (2 ^ n)) (show 2 ^ n < 2 ^ 31 by omega), if_true]
  | succ w ih =>
    intro set lm x2 hw h0 hu ht hb c2
    have hlt : ¬ nI (2 ^ n) ≤ nI set := nI_ge (by omega) (by omega)
    obtain ⟨h1, h2, h3, h4⟩ := dBag_step us tu h7 h0 (show set < 2 ^ n by omega)
    obtain ⟨lm', h5, h6, h8⟩ := ih (set + 1) (gm_up lm 75 set (dBag us tu n set)) (.int (nI (lb set))) (by omega) (by omega) (by rw [gu_row (by decide)]; exact hu) (by rw [gu_row (by decide)]; exact ht) (by
      intro s hs
      by_cases e : s = set
      · subst e; rw [gu_eq]
      · rw [gu_nk e]; exact hb s (by omega)) rfl
    refine ⟨lm', ?_, h6, Fr.tr ((Fr.rf _ lm).up (by simp)) h8⟩
    rw [LX0_fillBags_12]
    have hbb := hb (set &&& (set - 1)) h2
    have c1 : lm 73 (lb set) = us (lb set) := by rw [hu]
    have c2' : lm 74 (lb set) = tu (lb set) := by rw [ht]
    simp only [QX0_fillBags, hn, pow2 (show n < 9 by omega), hlt, if_false, J_ntz h0 (show set < 128 by omega), gm_cont_i, gm_cat_i, h3, i128 (set &&& (set - 1)) (show (set &&& (set - 1)) < 128 by omega), i128 set (show set < 128 by omega), i7 (lb set) (show lb set < 7 by omega), if_true, hbb, c1, c2', c2, nI_a1]
    rw [← h4]
    exact h5
theorem C_fillBags (im : gm_I) (lm : gm_L) (n : Nat) (hn : im 71 4 = nI n) (h7 : n ≤ 7) : ∃ lm', gm_den 7 0 [.ref 71, .null, .null] [] 128 gm_RF im lm = some (none, 128, gm_RF, im, lm') ∧ (∀ s, s < 2 ^ n → lm' 75 s = dBag (lm 73) (lm 74) n s) ∧ Fr [75] lm lm' := by
  have hp := p27 h7
  have n1 : Value.category .null = 1 := rfl
  have e0 : sL (lm 73) n = dBag (lm 73) (lm 74) n 0 := by
    unfold dBag
    simp only [Nat.zero_testBit]
    rfl
  obtain ⟨lm', h1, h2, h3⟩ := C_fillBags_loop im n hn h7 (lm 73) (lm 74) (2 ^ n - 1) 1 (gm_up lm 75 0 (dBag (lm 73) (lm 74) n 0)) .null (by have := Nat.pos_of_ne_zero (show 2 ^ n ≠ 0 from Nat.ne_of_gt (Nat.pow_pos (by decide))); omega) (by decide) (gu_row (by decide)) (gu_row (by decide)) (by
    intro s hs
    have : s = 0 := by omega
    subst this; rw [gu_eq]) rfl
  refine ⟨lm', ?_, h2, Fr.tr ((Fr.rf _ lm).up (by simp)) h3⟩
  have i0 : gm_in 0 128 = true ∧ (0 : Int32).toNatClampNeg = 0 := by decide
  simp only [QX0_fillBags, C_asItIs im lm n hn h7, gm_cont_l, i0, if_true, gm_cat_i, gm_cat_r, n1, e0]
  exact h1
