/-! texts: runs of bytes, letters packed, the kinds of tokens -/
def txL (b : Nat) : Bool := decide (97 ≤ b) && decide (b ≤ 122)
def txD (b : Nat) : Bool := decide (48 ≤ b) && decide (b ≤ 57)
def txB (b : Nat) : Bool := b == 9 || b == 10 || b == 13 || b == 32
def txE (p : Nat → Bool) (tb : Nat → Nat) (n : Nat) : Nat → Nat → Nat
  | 0, i => i
  | f + 1, i => cond (decide (i < n) && p (tb i)) (txE p tb n f (i + 1)) i
/-- where a run that begins at i ends -/
def txR (p : Nat → Bool) (tb : Nat → Nat) (n i : Nat) : Nat := txE p tb n (n - i) i
section
variable {p : Nat → Bool} {tb : Nat → Nat} {n i : Nat}
theorem txR_ge (h : n ≤ i) : txR p tb n i = i := by
  unfold txR; rw [show n - i = 0 by omega]; rfl
theorem txR_go (h : i < n) (hp : p (tb i) = true) : txR p tb n i = txR p tb n (i + 1) := by
  unfold txR; rw [show n - i = (n - (i + 1)) + 1 by omega]; simp only [txE, hp, h, decide_true, Bool.true_and, cond_true]
theorem txR_no (hp : p (tb i) = false) : txR p tb n i = i := by
  unfold txR
  cases n - i with
  | zero => rfl
  | succ f => simp only [txE, hp, Bool.and_false, cond_false]
theorem txE_ge (p : Nat → Bool) (tb : Nat → Nat) (n : Nat) : ∀ f i, i ≤ txE p tb n f i := by
  intro f
  induction f with
  | zero => intro i; exact Nat.le_refl _
  | succ f ih =>
    intro i
    unfold txE
    cases decide (i < n) && p (tb i) with
    | true => exact Nat.le_trans (Nat.le_succ i) (ih (i + 1))
    | false => exact Nat.le_refl _
theorem txE_le (p : Nat → Bool) (tb : Nat → Nat) (n : Nat) : ∀ f i, i ≤ n → txE p tb n f i ≤ n := by
  intro f
  induction f with
  | zero => intro i h; exact h
  | succ f ih =>
    intro i h
    unfold txE
    cases hc : decide (i < n) && p (tb i) with
    | true =>
      simp only [Bool.and_eq_true, decide_eq_true_eq] at hc
      exact ih (i + 1) (by omega)
    | false => exact h
theorem txE_in (p : Nat → Bool) (tb : Nat → Nat) (n : Nat) : ∀ f i j, i ≤ j → j < txE p tb n f i → p (tb j) = true := by
  intro f
  induction f with
  | zero => intro i j h1 h2; unfold txE at h2; omega
  | succ f ih =>
    intro i j h1 h2
    unfold txE at h2
    cases hc : decide (i < n) && p (tb i) with
    | true =>
      rw [hc] at h2
      simp only [Bool.and_eq_true, decide_eq_true_eq] at hc
      by_cases hij : i = j
      · rw [← hij]; exact hc.2
      · exact ih (i + 1) j (by omega) h2
    | false => rw [hc] at h2; simp only [cond_false] at h2; omega
theorem txE_end (p : Nat → Bool) (tb : Nat → Nat) (n : Nat) : ∀ f i, n ≤ i + f → txE p tb n f i < n → p (tb (txE p tb n f i)) = false := by
  intro f
  induction f with
  | zero => intro i h1 h2; unfold txE at h2; omega
  | succ f ih =>
    intro i h1 h2
    unfold txE at h2 ⊢
    cases hc : decide (i < n) && p (tb i) with
    | true => rw [hc] at h2; exact ih (i + 1) (by omega) h2
    | false =>
      rw [hc] at h2
      simp only [cond_false] at h2 ⊢
      simpa [h2] using hc
theorem txR_i : i ≤ txR p tb n i := txE_ge p tb n _ i
theorem txR_n (h : i ≤ n) : txR p tb n i ≤ n := txE_le p tb n _ i h
theorem txR_in {j : Nat} (h1 : i ≤ j) (h2 : j < txR p tb n i) : p (tb j) = true := txE_in p tb n _ i j h1 h2
theorem txR_end (h : txR p tb n i < n) : p (tb (txR p tb n i)) = false := txE_end p tb n _ i (by omega) h
/-- one that holds at the end of a shorter stretch -/
theorem txR_at {j : Nat} (h1 : i ≤ j) (h2 : ∀ x, i ≤ x → x < j → x < n ∧ p (tb x) = true) : txR p tb n i = txR p tb n j := by
  obtain ⟨k, rfl⟩ : ∃ k, j = i + k := ⟨j - i, by omega⟩
  clear h1
  induction k with
  | zero => rfl
  | succ k ih =>
    rw [ih (fun x a b => h2 x a (by omega))]
    have := h2 (i + k) (by omega) (by omega)
    exact txR_go this.1 this.2
end
/-- letters from i on, k of them, as a number to a base -/
def pkG (b : Nat) (d : Nat → Nat) : Nat → Nat
  | 0 => 0
  | k + 1 => pkG b d k * b + d k
theorem pkG_inj {b : Nat} (hb : 0 < b) : ∀ (k m : Nat) (d e : Nat → Nat), (∀ x, x < k → 1 ≤ d x ∧ d x < b) → (∀ x, x < m → 1 ≤ e x ∧ e x < b) → pkG b d k = pkG b e m → k = m ∧ ∀ x, x < k → d x = e x := by
  intro k
  induction k with
  | zero =>
    intro m d e hd he h
    cases m with
    | zero => exact ⟨rfl, fun x hx => absurd hx (Nat.not_lt_zero _)⟩
    | succ m =>
      have := (he m (Nat.lt_succ_self m)).1
      simp only [pkG] at h
      omega
  | succ k ih =>
    intro m d e hd he h
    cases m with
    | zero =>
      have := (hd k (Nat.lt_succ_self k)).1
      simp only [pkG] at h
      omega
    | succ m =>
      simp only [pkG] at h
      have hk := hd k (Nat.lt_succ_self k)
      have hm := he m (Nat.lt_succ_self m)
      have h1 : (pkG b d k * b + d k) % b = (pkG b e m * b + e m) % b := by rw [h]
      rw [Nat.mul_comm, Nat.mul_add_mod, Nat.mul_comm, Nat.mul_add_mod, Nat.mod_eq_of_lt hk.2, Nat.mod_eq_of_lt hm.2] at h1
      have h2 : pkG b d k * b = pkG b e m * b := by omega
      have h3 := Nat.eq_of_mul_eq_mul_right hb h2
      obtain ⟨e1, e2⟩ := ih m d e (fun x hx => hd x (by omega)) (fun x hx => he x (by omega)) h3
      refine ⟨by omega, fun x hx => ?_⟩
      by_cases hxk : x = k
      · subst hxk; rw [h1, e1]
      · exact e2 x (by omega)
theorem pkG_eq {b : Nat} {d e : Nat → Nat} : ∀ {k : Nat}, (∀ x, x < k → d x = e x) → pkG b d k = pkG b e k := by
  intro k
  induction k with
  | zero => intro _; rfl
  | succ k ih => intro h; simp only [pkG]; rw [ih (fun x hx => h x (by omega)), h k (by omega)]
/-- two bases tell the same words apart -/
theorem pkG_iff {a b : Nat} (ha : 27 ≤ a) (hb : 27 ≤ b) {k m : Nat} {d e : Nat → Nat} (hd : ∀ x, x < k → 1 ≤ d x ∧ d x < 27) (he : ∀ x, x < m → 1 ≤ e x ∧ e x < 27) : pkG a d k = pkG a e m ↔ pkG b d k = pkG b e m := by
  have key : ∀ {a b : Nat}, 27 ≤ a → 27 ≤ b → pkG a d k = pkG a e m → pkG b d k = pkG b e m := by
    intro a b ha hb h
    obtain ⟨h1, h2⟩ := pkG_inj (b := a) (by omega) k m d e (fun x hx => ⟨(hd x hx).1, by have := hd x hx; omega⟩) (fun x hx => ⟨(he x hx).1, by have := he x hx; omega⟩) h
    subst h1
    exact pkG_eq h2
  exact ⟨key ha hb, key hb ha⟩
theorem pkG_lt {b : Nat} {d : Nat → Nat} : ∀ {k : Nat}, (∀ x, x < k → d x < b) → pkG b d k < b ^ k ∨ k = 0 := by
  intro k
  induction k with
  | zero => intro _; exact Or.inr rfl
  | succ k ih =>
    intro h
    refine Or.inl ?_
    have hk := h k (by omega)
    simp only [pkG, Nat.pow_succ]
    rcases ih (fun x hx => h x (by omega)) with h1 | h1
    · have : (pkG b d k + 1) * b ≤ b ^ k * b := Nat.mul_le_mul_right b h1
      rw [Nat.add_mul] at this
      omega
    · subst h1; simp only [pkG, Nat.pow_zero]; omega
def cwl (w : Nat) : Nat := (cwd w).length
def cwf (w : Nat) : Nat → Nat := fun x => (cwd w).getD x 0
theorem cwd_F : ∀ w : Fin 20, pkL 32 (cwd w.val) = pkG 32 (cwf w.val) (cwl w.val) ∧ pkL 27 (cwd w.val) = pkG 27 (cwf w.val) (cwl w.val) ∧ cwl w.val ≤ 7 := by decide
theorem cwd_G : ∀ w : Fin 20, ∀ x : Fin 7, x.val < cwl w.val → 1 ≤ cwf w.val x.val ∧ cwf w.val x.val < 27 := by decide
theorem cwd_D : ∀ w v : Fin 20, pkL 32 (cwd w.val) = pkL 32 (cwd v.val) → w = v := by decide
/-- a word is the same by both packings -/
theorem wd_iff {w k : Nat} (hw : w < 20) {d : Nat → Nat} (hd : ∀ x, x < k → 1 ≤ d x ∧ d x < 27) : pkG 27 d k = pkL 27 (cwd w) ↔ pkG 32 d k = pkL 32 (cwd w) := by
  have h := cwd_F ⟨w, hw⟩
  simp only [] at h
  rw [h.1, h.2.1]
  exact pkG_iff (by decide) (by decide) hd (fun x hx => cwd_G ⟨w, hw⟩ ⟨x, by omega⟩ hx)
theorem wd_len {w k : Nat} (hw : w < 20) {d : Nat → Nat} (hd : ∀ x, x < k → 1 ≤ d x ∧ d x < 27) (h : pkG 32 d k = pkL 32 (cwd w)) : k ≤ 7 := by
  have h2 := cwd_F ⟨w, hw⟩
  simp only [] at h2
  rw [h2.1] at h
  have := (pkG_inj (b := 32) (by decide) k (cwl w) d (cwf w) (fun x hx => ⟨(hd x hx).1, by have := hd x hx; omega⟩) (fun x hx => by have := cwd_G ⟨w, hw⟩ ⟨x, by omega⟩ hx; simp only [] at this; omega) h).1
  omega
/-- the first word that is so packed, from w on; 20: none -/
def wSr (v : Nat) : Nat → Nat → Nat
  | 0, w => w
  | f + 1, w => if pkL 32 (cwd w) = v then w else wSr v f (w + 1)
theorem wSr_spec (v : Nat) : ∀ f w, w + f = 20 → (wSr v f w = 20 ∧ ∀ x, w ≤ x → x < 20 → ¬ pkL 32 (cwd x) = v) ∨ (wSr v f w < 20 ∧ pkL 32 (cwd (wSr v f w)) = v) := by
  intro f
  induction f with
  | zero => intro w h; exact Or.inl ⟨by simp only [wSr]; omega, fun x a b => by omega⟩
  | succ f ih =>
    intro w h
    simp only [wSr]
    by_cases hv : pkL 32 (cwd w) = v
    · rw [if_pos hv]; exact Or.inr ⟨by omega, hv⟩
    · rw [if_neg hv]
      rcases ih (w + 1) (by omega) with ⟨a, b⟩ | c
      · refine Or.inl ⟨a, fun x h1 h2 => ?_⟩
        by_cases hx : x = w
        · subst hx; exact hv
        · exact b x (by omega) h2
      · exact Or.inr c
def wIx (v : Nat) : Nat := wSr v 20 0
theorem wIx_uniq {v w : Nat} (hw : w < 20) (h : pkL 32 (cwd w) = v) : wIx v = w := by
  rcases wSr_spec v 20 0 rfl with ⟨-, b⟩ | ⟨a, b⟩
  · exact absurd h (b w (Nat.zero_le _) hw)
  · have := cwd_D ⟨wSr v 20 0, a⟩ ⟨w, hw⟩ (by show pkL 32 (cwd (wSr v 20 0)) = pkL 32 (cwd w); rw [b, h])
    exact congrArg Fin.val this
theorem wIx_no {v : Nat} (h : ∀ w, w < 20 → ¬ pkL 32 (cwd w) = v) : wIx v = 20 := by
  rcases wSr_spec v 20 0 rfl with ⟨a, -⟩ | ⟨a, b⟩
  · exact a
  · exact absurd b (h _ a)
theorem wIx_le (v : Nat) : wIx v ≤ 20 := by
  rcases wSr_spec v 20 0 rfl with ⟨a, -⟩ | ⟨a, -⟩
  · exact Nat.le_of_eq a
  · exact Nat.le_of_lt a
/-! tokens: kinds as the class numbers them -/
section
variable (tb : Nat → Nat) (n : Nat)
def tkd (i : Nat) : Nat → Nat := fun x => tb (i + x) - 96
def tkz (i : Nat) : Nat → Nat := fun x => tb (i + x) - 48
def tkSg (b : Nat) : Nat := if b = 59 ∨ b = 61 ∨ b = 43 ∨ b = 45 ∨ b = 42 ∨ b = 47 ∨ b = 60 ∨ b = 40 ∨ b = 41 then b else 0
def tkWd (v : Nat) : Nat := if wIx v = 20 then 1 else 128 + wIx v
/-- the kind of the token at a place -/
def tkK (i : Nat) : Nat := if n ≤ i then 3 else cond (txL (tb i)) (if 8 < txR txL tb n i - i then 0 else tkWd (pkG 32 (tkd tb i) (txR txL tb n i - i))) (cond (txD (tb i)) (if 4 < txR txD tb n i - i then 0 else 2) (tkSg (tb i)))
/-- where it ends -/
def tkE (i : Nat) : Nat := cond (txL (tb i)) (txR txL tb n i) (cond (txD (tb i)) (txR txD tb n i) (i + 1))
def tkV (i : Nat) : Nat := cond (txL (tb i)) (pkG 32 (tkd tb i) (min 8 (txR txL tb n i - i))) (cond (txD (tb i)) (pkG 10 (tkz tb i) (min 4 (txR txD tb n i - i))) 0)
def tkN (i : Nat) : Nat := cond (txL (tb i)) (pkG 27 (tkd tb i) (min 8 (txR txL tb n i - i))) 0
/-- from where the k-th token is looked for -/
def tkF : Nat → Nat
  | 0 => 0
  | k + 1 => tkE tb n (txR txB tb n (tkF k))
def tkP (k : Nat) : Nat := txR txB tb n (tkF tb n k)
def tkk (k : Nat) : Nat := tkK tb n (tkP tb n k)
def tkv (k : Nat) : Nat := tkV tb n (tkP tb n k)
def tkn (k : Nat) : Nat := tkN tb n (tkP tb n k)
end
/-- the kinds that there are -/
def kOk (k : Nat) : Bool := k ≤ 3 || k == 59 || k == 61 || k == 43 || k == 45 || k == 42 || k == 47 || k == 60 || k == 40 || k == 41 || (decide (128 ≤ k) && decide (k < 148))
theorem tkWd_ok (v : Nat) : kOk (tkWd v) = true := by
  unfold tkWd kOk
  have := wIx_le v
  by_cases h : wIx v = 20
  · rw [if_pos h]; rfl
  · rw [if_neg h]
    have h1 : 128 ≤ 128 + wIx v := by omega
    have h2 : 128 + wIx v < 148 := by omega
    simp [h1, h2]
theorem tkSg_ok (b : Nat) : kOk (tkSg b) = true := by
  unfold tkSg
  by_cases h : b = 59 ∨ b = 61 ∨ b = 43 ∨ b = 45 ∨ b = 42 ∨ b = 47 ∨ b = 60 ∨ b = 40 ∨ b = 41
  · rw [if_pos h]
    rcases h with rfl | rfl | rfl | rfl | rfl | rfl | rfl | rfl | rfl <;> rfl
  · rw [if_neg h]; rfl
theorem tkK_ok (tb : Nat → Nat) (n i : Nat) : kOk (tkK tb n i) = true := by
  unfold tkK
  split
  · rfl
  · cases txL (tb i) with
    | true =>
      simp only [cond_true]
      split
      · rfl
      · exact tkWd_ok _
    | false =>
      simp only [cond_false]
      cases txD (tb i) with
      | true =>
        simp only [cond_true]
        split <;> rfl
      | false => exact tkSg_ok _
theorem tkk_ok (tb : Nat → Nat) (n k : Nat) : kOk (tkk tb n k) = true := tkK_ok _ _ _
theorem tkE_n {tb : Nat → Nat} {n i : Nat} (h : i < n) : i < tkE tb n i ∧ tkE tb n i ≤ n := by
  unfold tkE
  cases hL : txL (tb i) with
  | true =>
    simp only [cond_true]
    rw [txR_go h hL]
    have := txR_i (p := txL) (tb := tb) (n := n) (i := i + 1)
    exact ⟨by omega, txR_n (by omega)⟩
  | false =>
    simp only [cond_false]
    cases hD : txD (tb i) with
    | true =>
      simp only [cond_true]
      rw [txR_go h hD]
      have := txR_i (p := txD) (tb := tb) (n := n) (i := i + 1)
      exact ⟨by omega, txR_n (by omega)⟩
    | false => simp only [cond_false]; omega
theorem tkE_le {tb : Nat → Nat} {n i : Nat} (h : i < n) : tkE tb n i ≤ n := (tkE_n h).2
theorem tkk_end {tb : Nat → Nat} {n k : Nat} : tkk tb n k = 3 ↔ n ≤ tkP tb n k := by
  unfold tkk tkK
  constructor
  · intro h
    by_cases hn : n ≤ tkP tb n k
    · exact hn
    · rw [if_neg hn] at h
      exfalso
      revert h
      cases txL (tb (tkP tb n k)) with
      | true =>
        simp only [cond_true]
        split
        · intro h; cases h
        · unfold tkWd
          split
          · intro h; cases h
          · intro h; omega
      | false =>
        simp only [cond_false]
        cases txD (tb (tkP tb n k)) with
        | true => simp only [cond_true]; split <;> (intro h; cases h)
        | false =>
          simp only [cond_false]
          unfold tkSg
          split
          · rename_i h; intro h2; omega
          · intro h; cases h
  · intro h; rw [if_pos h]
theorem tkF_n {tb : Nat → Nat} {n : Nat} : ∀ {k : Nat}, (∀ x, x < k → ¬ tkk tb n x = 3) → tkF tb n k ≤ n ∧ tkP tb n k ≤ n := by
  intro k
  have key : tkF tb n k ≤ n → tkF tb n k ≤ n ∧ tkP tb n k ≤ n := fun h => ⟨h, txR_n h⟩
  cases k with
  | zero => intro _; exact key (Nat.zero_le _)
  | succ k =>
    intro h
    apply key
    have : tkP tb n k < n := by
      have := h k (by omega)
      rw [tkk_end] at this
      omega
    exact tkE_le this
/-- places grow -/
theorem tkP_lt {tb : Nat → Nat} {n k : Nat} (h : ¬ tkk tb n k = 3) : tkP tb n k < tkP tb n (k + 1) := by
  rw [tkk_end] at h
  have h1 := (tkE_n (tb := tb) (n := n) (i := tkP tb n k) (by omega)).1
  have h2 : tkE tb n (tkP tb n k) ≤ tkP tb n (k + 1) := txR_i
  omega
