/-! Tally: lead, apart -/
def pos (S N : Nat → Nat) : Prop := ∀ s, s < 3 → (0 < S s → 0 < N s)
theorem cross {sa na sb nb sc nc : Nat} (h0 : 0 < nc) (h1 : sb * nc ≤ sc * nb) (h2 : sc * na ≤ sa * nc) : sb * na ≤ sa * nb := by
  have e1 : sb * na * nc ≤ sa * nb * nc := by
    have a1 : sb * nc * na ≤ sc * nb * na := Nat.mul_le_mul_right na h1
    have a2 : sc * na * nb ≤ sa * nc * nb := Nat.mul_le_mul_right nb h2
    have b1 : sb * na * nc = sb * nc * na := Nat.mul_right_comm _ _ _
    have b2 : sc * nb * na = sc * na * nb := Nat.mul_right_comm _ _ _
    have b3 : sa * nc * nb = sa * nb * nc := Nat.mul_right_comm _ _ _
    omega
  exact Nat.le_of_mul_le_mul_right e1 h0
theorem gwl_none {left : Int32} {S N : Nat → Nat} {n : Nat} (h : gwl left S N n = none) : ∀ s, s < n → ¬ nI s = left → S s = 0 := by
  induction n with
  | zero => intro s hs; omega
  | succ n ih =>
    simp only [gwl] at h
    by_cases hl : nI n = left
    · rw [if_pos hl] at h
      intro s hs hne
      have : s ≠ n := by intro e; subst e; exact hne hl
      exact ih h s (by omega) hne
    · rw [if_neg hl] at h
      cases hg : gwl left S N n with
      | none =>
        rw [hg] at h
        simp only [] at h
        by_cases h0 : 0 < S n
        · rw [if_pos h0] at h; cases h
        · intro s hs hne
          by_cases e : s = n
          · subst e; omega
          · exact ih hg s (by omega) hne
      | some c =>
        rw [hg] at h
        simp only [] at h
        split at h <;> cases h
theorem gwl_max {left : Int32} {S N : Nat → Nat} (hp : pos S N) {n a : Nat} (hn : n ≤ 3) (h : gwl left S N n = some a) : a < n ∧ 0 < S a ∧ ∀ s, s < n → ¬ nI s = left → S s * N a ≤ S a * N s := by
  induction n generalizing a with
  | zero => cases h
  | succ n ih =>
    simp only [gwl] at h
    by_cases hl : nI n = left
    · rw [if_pos hl] at h
      obtain ⟨h1, h2, h3⟩ := ih (by omega) h
      refine ⟨by omega, h2, fun s hs hne => ?_⟩
      have : s ≠ n := by intro e; subst e; exact hne hl
      exact h3 s (by omega) hne
    · rw [if_neg hl] at h
      cases hg : gwl left S N n with
      | none =>
        rw [hg] at h
        simp only [] at h
        by_cases h0 : 0 < S n
        · rw [if_pos h0] at h
          cases h
          refine ⟨by omega, h0, fun s hs hne => ?_⟩
          by_cases e : s = n
          · subst e; exact Nat.le_refl _
          · have hz : S s = 0 := gwl_none hg s (by omega) hne
            rw [hz]; simp
        · rw [if_neg h0] at h; cases h
      | some c =>
        rw [hg] at h
        simp only [] at h
        obtain ⟨h1, h2, h3⟩ := ih (by omega) hg
        have hnc : 0 < N c := hp c (by omega) h2
        by_cases hc : S c * N n < S n * N c
        · rw [if_pos hc] at h
          cases h
          have h0 : 0 < S n := by
            apply Nat.pos_of_ne_zero
            intro e; rw [e] at hc; simp at hc
          refine ⟨by omega, h0, fun s hs hne => ?_⟩
          by_cases e : s = n
          · subst e; exact Nat.le_refl _
          · exact cross hnc (h3 s (by omega) hne) (Nat.le_of_lt hc)
        · rw [if_neg hc] at h
          cases h
          refine ⟨by omega, h2, fun s hs hne => ?_⟩
          by_cases e : s = n
          · subst e; omega
          · exact h3 s (by omega) hne
theorem gw_max {S N : Nat → Nat} (hp : pos S N) {a : Nat} (h : gw S N 3 = some a) : a < 3 ∧ 0 < S a ∧ ∀ s, s < 3 → S s * N a ≤ S a * N s := by
  rw [← gwl_gw S N 3 (by decide)] at h
  obtain ⟨h1, h2, h3⟩ := gwl_max hp (by decide) h
  refine ⟨h1, h2, fun s hs => h3 s hs ?_⟩
  have : s = 0 ∨ s = 1 ∨ s = 2 := by omega
  rcases this with rfl | rfl | rfl <;> decide
def gLead (S N : Nat → Nat) : Int32 := match gw S N 3 with
  | none => -2
  | some a => match gwl (nI a) S N 3 with
    | none => -2
    | some b => nI (100 * (S a * N b - S b * N a) / (N a * N b))
theorem eO_ne {a : Nat} (h : a < 3) : ¬ nI a = -2 := by
  have : a = 0 ∨ a = 1 ∨ a = 2 := by omega
  rcases this with rfl | rfl | rfl <;> decide
theorem C_lead {S N : Nat → Nat} (h : lanes S N) (hp : pos S N) (im : gm_I) (lm : gm_L) : gm_den 96 0 [.long (bag S N), .null, .null, .null] [] 128 gm_RF im lm = some (some (.int (gLead S N)), 128, gm_RF, im, lm) := by
  have n1 : Value.category .null = 1 := rfl
  cases hg : gw S N 3 with
  | none => simp only [QX9_lead, C_winner h, C_greatestBut h, gm_cont_i, gm_cat_i, n1, hg, eO, if_true, gLead]
  | some a =>
    obtain ⟨ha, ha0, ham⟩ := gw_max hp hg
    cases hg2 : gwl (nI a) S N 3 with
    | none => simp only [QX9_lead, C_winner h, C_greatestBut h, gm_cont_i, gm_cat_i, n1, hg, hg2, eO, if_true, if_false, gLead, eO_ne ha, not_true_eq_false]
    | some b =>
      obtain ⟨hb, hb0, -⟩ := gwl_max hp (by decide) hg2
      have hh := C_hundredfold h ha hb (hp a ha ha0) (hp b hb hb0) (ham b hb) im lm .null
      simp only [QX9_lead, C_winner h, C_greatestBut h, gm_cont_i, gm_cat_i, n1, hg, hg2, eO, if_true, if_false, gLead, eO_ne ha, eO_ne hb, not_false_eq_true, hh]
/-- the least mean -/
def gl (S N : Nat → Nat) : Nat → Option Nat
  | 0 => none
  | s + 1 => match gl S N s with
    | none => if 0 < S s then some s else none
    | some b => if 0 < S s ∧ S s * N b < S b * N s then some s else some b
theorem gl_none {S N : Nat → Nat} {n : Nat} (h : gl S N n = none) : ∀ s, s < n → S s = 0 := by
  induction n with
  | zero => intro s hs; omega
  | succ n ih =>
    simp only [gl] at h
    cases hg : gl S N n with
    | none =>
      rw [hg] at h
      simp only [] at h
      by_cases h0 : 0 < S n
      · rw [if_pos h0] at h; cases h
      · intro s hs
        by_cases e : s = n
        · subst e; omega
        · exact ih hg s (by omega)
    | some c =>
      rw [hg] at h
      simp only [] at h
      split at h <;> cases h
theorem gl_min {S N : Nat → Nat} (hp : pos S N) {n a : Nat} (hn : n ≤ 3) (h : gl S N n = some a) : a < n ∧ 0 < S a ∧ ∀ s, s < n → 0 < S s → S a * N s ≤ S s * N a := by
  induction n generalizing a with
  | zero => cases h
  | succ n ih =>
    simp only [gl] at h
    cases hg : gl S N n with
    | none =>
      rw [hg] at h
      simp only [] at h
      by_cases h0 : 0 < S n
      · rw [if_pos h0] at h
        cases h
        refine ⟨by omega, h0, fun s hs h1 => ?_⟩
        by_cases e : s = n
        · subst e; exact Nat.le_refl _
        · have := gl_none hg s (by omega)
          omega
      · rw [if_neg h0] at h; cases h
    | some c =>
      rw [hg] at h
      simp only [] at h
      obtain ⟨h1, h2, h3⟩ := ih (by omega) hg
      have hnc : 0 < N c := hp c (by omega) h2
      by_cases hc : 0 < S n ∧ S n * N c < S c * N n
      · rw [if_pos hc] at h
        cases h
        refine ⟨by omega, hc.1, fun s hs hs0 => ?_⟩
        by_cases e : s = n
        · subst e; exact Nat.le_refl _
        · exact cross hnc (Nat.le_of_lt hc.2) (h3 s (by omega) hs0)
      · rw [if_neg hc] at h
        cases h
        refine ⟨by omega, h2, fun s hs hs0 => ?_⟩
        by_cases e : s = n
        · subst e
          have : ¬ S s * N a < S a * N s := fun hh => hc ⟨hs0, hh⟩
          omega
        · exact h3 s (by omega) hs0
theorem nI_over {x y : Nat} (hx : x < 2 ^ 30) (hy : y < 2 ^ 30) : (0 ≤ nI x - nI y) ↔ y ≤ x := by
  constructor
  · intro h
    apply Classical.byContradiction
    intro hc
    have e : nI x - nI y = - nI (y - x) := by
      rw [← nI_sub (show x ≤ y by omega), Int32.neg_sub]
    rw [e, Int32.le_iff_toInt_le] at h
    have h1 : (nI (y - x)).toInt = (y - x : Nat) := nI_toInt (by omega)
    rw [Int32.toInt_neg, h1] at h
    rw [Int.bmod_def] at h
    have : (-((y - x : Nat) : Int)) % ((2 ^ 32 : Nat) : Int) = 2 ^ 32 - ((y - x : Nat) : Int) := by
      rw [Int.neg_emod_eq_sub_emod]
      apply Int.emod_eq_of_lt <;> omega
    rw [this] at h
    simp at h
    split at h <;> omega
  · intro h
    rw [nI_sub h, Int32.le_iff_toInt_le, nI_toInt (by omega)]
    simp
theorem C_least_loop {S N : Nat → Nat} (h : lanes S N) (im : gm_I) (lm : gm_L) : ∀ (w s : Nat), s + w = 3 → gm_den 98 5 [.long (bag S N), .null, .int (eO (gl S N s)), .int (nI s)] [] 128 gm_RF im lm = some (some (.int (eO (gl S N 3))), 128, gm_RF, im, lm) := by
  intro w
  induction w with
  | zero =>
    intro s hs
    have : s = 3 := by omega
    subst this
    rw [LX9_least_5]
    simp (decide := true) only [QX9_least, if_true]
  | succ w ih =>
    intro s hs
    have ih1 := ih (s + 1) (by omega)
    have hs3 : s < 3 := by omega
    have hlt : ¬ (3 : Int32) ≤ nI s := nI_ge (b := 3) hs3 (by decide)
    have hL := h s hs3
    rw [LX9_least_5]
    have ht := C_total h hs3 im lm .null
    have n1 : Value.category .null = 1 := rfl
    generalize hz : eO (gl S N 3) = z at ih1 ⊢
    by_cases h0 : 0 < S s
    · have hle : ¬ nI (S s) ≤ 0 := nI_nle h0 (by omega)
      cases hg : gl S N s with
      | none =>
        simp only [gl, hg, h0, if_true] at ih1
        simp only [QX9_least, n1, hlt, if_true, if_false, ht, gm_cont_i, gm_cat_i, hle, eO, nI_a1]
        exact ih1
      | some b =>
        have hb3 : b < 3 := by
          have : ∀ n c, gl S N n = some c → c < n := by
            intro n
            induction n with
            | zero => intro c hc; cases hc
            | succ n ihn =>
              intro c hc
              simp only [gl] at hc
              cases hh : gl S N n with
              | none => rw [hh] at hc; simp only [] at hc; split at hc <;> cases hc; omega
              | some d => rw [hh] at hc; simp only [] at hc; have := ihn d hh; split at hc <;> cases hc <;> omega
          have := this s b hg
          omega
        have hb := h b hb3
        have m1 : S s * N b ≤ 504 * 7 := Nat.mul_le_mul hL.1 hb.2
        have m2 : S b * N s ≤ 504 * 7 := Nat.mul_le_mul hb.1 hL.2
        have hov := C_over h hs3 hb3 im lm .null
        have hi := nI_over (x := S s * N b) (y := S b * N s) (by omega) (by omega)
        by_cases hc : S s * N b < S b * N s
        · have hx : ¬ (0 ≤ nI (S s * N b) - nI (S b * N s)) := by rw [hi]; omega
          simp only [gl, hg, h0, hc, if_true, and_self] at ih1
          simp only [QX9_least, n1, hlt, if_true, if_false, ht, gm_cont_i, gm_cat_i, hle, eO, nI_a1, eO_ne hb3, hov, hx]
          exact ih1
        · have hx : (0 ≤ nI (S s * N b) - nI (S b * N s)) := by rw [hi]; omega
          simp only [gl, hg, hc, if_false, and_false] at ih1
          simp only [QX9_least, n1, hlt, if_true, if_false, ht, gm_cont_i, gm_cat_i, hle, eO, nI_a1, eO_ne hb3, hov, hx]
          exact ih1
    · have hz : S s = 0 := by omega
      have hle : nI (S s) ≤ 0 := by rw [hz]; decide
      have ge : gl S N (s + 1) = gl S N s := by
        simp only [gl, h0]
        cases gl S N s <;> simp
      rw [ge] at ih1
      simp only [QX9_least, n1, hlt, if_true, if_false, ht, gm_cont_i, hle, nI_a1]
      exact ih1
theorem C_least {S N : Nat → Nat} (h : lanes S N) (im : gm_I) (lm : gm_L) : gm_den 98 0 [.long (bag S N), .null, .null, .null] [] 128 gm_RF im lm = some (some (.int (eO (gl S N 3))), 128, gm_RF, im, lm) := by
  have h1 := C_least_loop h im lm 3 0 (by omega)
  have n1 : Value.category .null = 1 := rfl
  simp only [QX9_least, gm_cat_i, n1]
  exact h1
def gApart (S N : Nat → Nat) : Int32 := match gw S N 3 with
  | none => 0
  | some a => match gl S N 3 with
    | none => 0
    | some b => nI (100 * (S a * N b - S b * N a) / (N a * N b))
theorem C_apart {S N : Nat → Nat} (h : lanes S N) (hp : pos S N) (im : gm_I) (lm : gm_L) : gm_den 99 0 [.long (bag S N), .null, .null, .null] [] 128 gm_RF im lm = some (some (.int (gApart S N)), 128, gm_RF, im, lm) := by
  have n1 : Value.category .null = 1 := rfl
  cases hg : gw S N 3 with
  | none => simp only [QX9_apart, C_winner h, C_least h, gm_cont_i, gm_cat_i, n1, hg, eO, if_true, gApart]
  | some a =>
    obtain ⟨ha, ha0, ham⟩ := gw_max hp hg
    cases hg2 : gl S N 3 with
    | none => simp only [QX9_apart, C_winner h, C_least h, gm_cont_i, gm_cat_i, n1, hg, hg2, eO, if_true, if_false, gApart, eO_ne ha, not_true_eq_false]
    | some b =>
      obtain ⟨hb, hb0, -⟩ := gl_min hp (by decide) hg2
      have hh := C_hundredfold h ha hb (hp a ha ha0) (hp b hb hb0) (ham b hb) im lm .null
      simp only [QX9_apart, C_winner h, C_least h, gm_cont_i, gm_cat_i, n1, hg, hg2, eO, if_true, if_false, gApart, eO_ne ha, eO_ne hb, not_false_eq_true, hh]
def fa (N : Nat → Nat) (s : Nat) : Nat := if 1 < N s then N s else 1
def gall (N : Nat → Nat) : Nat → Nat
  | 0 => 1
  | s + 1 => gall N s * (fa N s * fa N s)
theorem C_exact_loop {S N : Nat → Nat} (h : lanes S N) (x2 x3 x4 : Int32) (im : gm_I) (lm : gm_L) : ∀ (w s : Nat) (x7 : Value), s + w = 3 → x7.category = 1 → ∃ x7', gm_den 100 43 [.long (bag S N), .null, .int x2, .int x3, .int x4, .int (nI (gall N s)), .int (nI s), x7] [] 128 gm_RF im lm = gm_den 100 77 [.long (bag S N), .null, .int x2, .int x3, .int x4, .int (nI (gall N 3)), .int (nI 3), x7'] [] 128 gm_RF im lm := by
  intro w
  induction w with
  | zero =>
    intro s x7 hs c7
    have : s = 3 := by omega
    subst this
    refine ⟨x7, ?_⟩
    rw [LX9_apartExactly_43]
    simp (decide := true) only [QX9_apartExactly, if_true]
  | succ w ih =>
    intro s x7 hs c7
    have hs3 : s < 3 := by omega
    have hL := h s hs3
    have hlt : ¬ (3 : Int32) ≤ nI s := nI_ge (b := 3) hs3 (by decide)
    obtain ⟨x7', ih1⟩ := ih (s + 1) (.int (nI (fa N s))) (by omega) rfl
    refine ⟨x7', ?_⟩
    rw [LX9_apartExactly_43]
    have hsp := C_speeches h hs3 im lm .null
    have hfa : (if (1 : Int32) < nI (N s) then nI (N s) else 1) = nI (fa N s) := by
      unfold fa
      have : ((1 : Int32) < nI (N s)) ↔ 1 < N s := nI_ltI (a := 1) (by decide) (by omega)
      by_cases hc : 1 < N s
      · rw [if_pos (this.mpr hc), if_pos hc]
      · rw [if_neg (fun hh => hc (this.mp hh)), if_neg hc]; rfl
    generalize gm_den 100 77 [.long (bag S N), .null, .int x2, .int x3, .int x4, .int (nI (gall N 3)), .int (nI 3), x7'] [] 128 gm_RF im lm = z at ih1 ⊢
    simp only [QX9_apartExactly, hlt, if_false, hsp, gm_cont_i, gm_cat_i, hfa, c7, nI_mul, nI_a1]
    exact ih1
def gEx (S N : Nat → Nat) : Nat := match gw S N 3 with
  | none => 0
  | some a => match gl S N 3 with
    | none => 0
    | some b => (S a * N b - S b * N a) * (gall N 3 / (N a * N b))
theorem C_apartExactly {S N : Nat → Nat} (h : lanes S N) (hp : pos S N) (im : gm_I) (lm : gm_L) : gm_den 100 0 [.long (bag S N), .null, .null, .null, .null, .null, .null, .null] [] 128 gm_RF im lm = some (some (.int (nI (gEx S N))), 128, gm_RF, im, lm) := by
  have n1 : Value.category .null = 1 := rfl
  cases hg : gw S N 3 with
  | none =>
    simp only [QX9_apartExactly, C_winner h, C_least h, gm_cont_i, gm_cat_i, n1, hg, eO, if_true, gEx]
    rfl
  | some a =>
    obtain ⟨ha, ha0, ham⟩ := gw_max hp hg
    cases hg2 : gl S N 3 with
    | none =>
      simp only [QX9_apartExactly, C_winner h, C_least h, gm_cont_i, gm_cat_i, n1, hg, hg2, eO, if_true, if_false, gEx, eO_ne ha, not_true_eq_false]
      rfl
    | some b =>
      obtain ⟨hb, hb0, -⟩ := gl_min hp (by decide) hg2
      have hA := h a ha
      have hB := h b hb
      have hpp := Nat.mul_pos (hp a ha ha0) (hp b hb hb0)
      have m0 : N a * N b ≤ 7 * 7 := Nat.mul_le_mul hA.2 hB.2
      have hz : ¬ nI (N a * N b) = 0 := nI_ne0 hpp (by omega)
      have hfa : ∀ s, s < 3 → fa N s * fa N s ≤ 49 := fun s hs => by
        have := h s hs
        have : fa N s ≤ 7 := by unfold fa; split <;> omega
        exact Nat.mul_le_mul this this
      have hall : gall N 3 ≤ 117649 := by
        have a1 : gall N 1 ≤ 1 * 49 := Nat.mul_le_mul (Nat.le_refl 1) (hfa 0 (by decide))
        have a2 : gall N 2 ≤ (1 * 49) * 49 := Nat.mul_le_mul a1 (hfa 1 (by decide))
        exact Nat.mul_le_mul a2 (hfa 2 (by decide))
      obtain ⟨x7', hl⟩ := C_exact_loop h (nI a) (nI b) (nI (N a * N b)) im lm 3 0 .null (by omega) rfl
      have hov := C_over h ha hb im lm .null
      have hs1 := C_speeches h ha im lm .null
      have hs2 := C_speeches h hb im lm .null
      have e1 : gm_den 100 0 [.long (bag S N), .null, .null, .null, .null, .null, .null, .null] [] 128 gm_RF im lm = gm_den 100 43 [.long (bag S N), .null, .int (nI a), .int (nI b), .int (nI (N a * N b)), .int (nI (gall N 0)), .int (nI 0), .null] [] 128 gm_RF im lm := by
        simp only [QX9_apartExactly, C_winner h, C_least h, gm_cont_i, gm_cat_i, n1, hg, hg2, eO, if_true, if_false, eO_ne ha, eO_ne hb, not_false_eq_true, hs1, hs2, nI_mul]
        rfl
      rw [e1, hl]
      simp only [QX9_apartExactly, hz, if_true, if_false, not_false_eq_true, hov, gm_cont_i]
      rw [nI_sub (ham b hb), nI_div (by omega) hpp (by omega), nI_mul]
      simp only [gEx, hg, hg2]
