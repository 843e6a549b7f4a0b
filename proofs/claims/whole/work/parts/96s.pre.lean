/-! the reference's reading: up to the tells -/
theorem tkK_1 {tb : Nat → Nat} {n t : Nat} (h : tkk tb n t = 1) : txL (tb (tkP tb n t)) = true := by
  unfold tkk tkK at h
  by_cases hn : n ≤ tkP tb n t
  · rw [if_pos hn] at h; cases h
  · rw [if_neg hn] at h
    cases hL : txL (tb (tkP tb n t)) with
    | true => rfl
    | false =>
      exfalso
      rw [hL] at h
      simp only [cond_false] at h
      revert h
      cases txD (tb (tkP tb n t)) with
      | true =>
        simp only [cond_true]
        split
        · intro h; cases h
        · intro h; cases h
      | false =>
        simp only [cond_false]
        unfold tkSg
        split
        · intro h; omega
        · intro h; cases h
theorem tkn_lt (tb : Nat → Nat) (n t : Nat) : tkn tb n t < 2 ^ 63 := by
  unfold tkn tkN
  cases txL (tb (tkP tb n t)) with
  | true =>
    refine pkG_63 (by decide) (by decide) (by omega) (fun x hx => ?_)
    have := txL_r (txR_in (p := txL) (tb := tb) (n := n) (i := tkP tb n t) (j := tkP tb n t + x) (by omega) (by omega))
    show tb (tkP tb n t + x) - 96 < 27
    omega
  | false => show (0 : Nat) < 2 ^ 63; decide
theorem tkn_tkv {tb : Nat → Nat} {n x y : Nat} (hx : tkk tb n x = 1) (hy : tkk tb n y = 1) : tkn tb n x = tkn tb n y ↔ tkv tb n x = tkv tb n y := by
  unfold tkn tkN tkv tkV
  rw [tkK_1 hx, tkK_1 hy]
  simp only [cond_true]
  refine pkG_iff (by decide) (by decide) (fun z hz => ?_) (fun z hz => ?_)
  · have := txL_r (txR_in (p := txL) (tb := tb) (n := n) (i := tkP tb n x) (j := tkP tb n x + z) (by omega) (by omega))
    show 1 ≤ tb (tkP tb n x + z) - 96 ∧ tb (tkP tb n x + z) - 96 < 27
    omega
  · have := txL_r (txR_in (p := txL) (tb := tb) (n := n) (i := tkP tb n y) (j := tkP tb n y + z) (by omega) (by omega))
    show 1 ≤ tb (tkP tb n y + z) - 96 ∧ tb (tkP tb n y + z) - 96 < 27
    omega
theorem tcx_tk {im : gm_I} {lm : gm_L} {tb : Nat → Nat} {n M : Nat} (hn : n ≤ 2000) (h : mCt im lm tb n M) : tcx (tkk tb n) (tkv tb n) (tkP tb n) (tkn tb n) M := by
  obtain ⟨h1, h2, h3, h4⟩ := h
  refine ⟨⟨h1, h3, h4, fun x => tkk_ok tb n x⟩, fun t ht => tkv_int ht, fun y hy => ?_, fun x y hxy hy => ?_, fun y => tkn_lt tb n y, fun x y hx hy => tkn_tkv hx hy⟩
  · have := (tkF_n (tb := tb) (n := n) (k := y) (fun x hx => h3 x (by omega))).2
    omega
  · have key : ∀ d, x + d + 1 ≤ M → tkP tb n x < tkP tb n (x + d + 1) := by
      intro d
      induction d with
      | zero => intro hd; exact tkP_lt (h3 x (by omega))
      | succ d ih =>
        intro hd
        have a := ih (by omega)
        have b := tkP_lt (tb := tb) (n := n) (h3 (x + d + 1) (by omega))
        show _ < tkP tb n (x + d + 1 + 1)
        omega
    have := key (y - x - 1) (by omega)
    rw [show x + (y - x - 1) + 1 = y by omega] at this
    exact this
theorem byN_id : ∀ b : Fin 256, (byN b.val).toInt8.toInt32 = byN b.val := by decide +kernel
theorem M_rcopy {tb : Nat → Nat} {n : Nat} (hn : n ≤ 2000) (lm : gm_L) : ∀ (w i : Nat) (im : gm_I), i + w = n → im 84 4 = nI n → (∀ x, x < n → tb x < 256 ∧ im 85 x = byN (tb x)) → (∀ x, x < i → im 86 x = byN (tb x)) → ∃ im', gm_den 182 10 [.ref 84, .int (nI i)] [] 128 gm_RF im lm = gm_den 182 36 [.ref 84, .int (nI n)] [] 128 gm_RF im' lm ∧ Fr [86] im im' ∧ ∀ x, x < n → im' 86 x = byN (tb x) := by
  intro w
  induction w with
  | zero =>
    intro i im hi h4 h85 h86
    have hle : nI n ≤ nI i := nI_le (by omega) (by omega)
    have ei : i = n := by omega
    refine ⟨im, ?_, Fr.rf _ _, fun x hx => h86 x (by omega)⟩
    rw [LX12_read_10]
    simp (decide := true) only [QX12_read, h4, hle, if_true]
    rw [ei]
  | succ w ih =>
    intro i im hi h4 h85 h86
    have hle : ¬ nI n ≤ nI i := nI_ge (by omega) (by omega)
    have c1 : gm_in (nI i) 2000 = true := gm_in_nI (by omega) (by decide)
    have c2 : (nI i).toNatClampNeg = i := nI_clamp (by omega)
    obtain ⟨b1, b2⟩ := h85 i (by omega)
    have b3 := byN_id ⟨tb i, b1⟩
    simp only [] at b3
    obtain ⟨im', q1, q2, q3⟩ := ih (i + 1) (gm_up im 86 i (byN (tb i))) (by omega) (by rw [gu_ne (by decide)]; exact h4) (by rw [gu_row (by decide)]; exact h85) (fun x hx => by
      by_cases e : x = i
      · subst e; rw [gu_eq]
      · rw [gu_nk e]; exact h86 x (by omega))
    refine ⟨im', ?_, Fr.tr (fun q hq => gu_row (fun e => hq (by rw [e]; decide))) q2, q3⟩
    rw [← q1, LX12_read_10]
    simp (decide := true) only [QX12_read, h4, hle, if_false, c1, c2, if_true, b2, b3, nI_a1]
/-- the frame of the whole reading -/
def mR (s : Nat) (im im' : gm_I) : Prop := (∀ q, q ∉ [84, 86, 87, 88, 89] → (q < 93 ∨ 113 < q) → im' q = im q) ∧ (∀ j, j ∉ [2, 4, 10, 11, 12, 13, 14, 15, 16, 17, 19, 20, 35, 41, 45] → im' 84 j = im 84 j) ∧ (∀ q j, 93 ≤ q → q ≤ 112 → ¬ (s * sWd q ≤ j ∧ j < s * sWd q + sWd q) → im' q j = im q j)
theorem mR.rf (s : Nat) (im : gm_I) : mR s im im := ⟨fun _ _ _ => rfl, fun _ _ => rfl, fun _ _ _ _ _ => rfl⟩
theorem mR.tr {s : Nat} {a b c : gm_I} (h : mR s a b) (k : mR s b c) : mR s a c := ⟨fun q x y => (k.1 q x y).trans (h.1 q x y), fun j hj => (k.2.1 j hj).trans (h.2.1 j hj), fun q j x y z => (k.2.2 q j x y z).trans (h.2.2 q j x y z)⟩
theorem mF.mr {s : Nat} {a b : gm_I} (h : mF s a b) : mR s a b := ⟨fun q x y => h.1 q (fun e => x (by rw [e]; decide)) y, fun j hj => h.2.1 j (fun e => hj (by simp at e ⊢; omega)), h.2.2⟩
theorem mR.up {s : Nat} (a : gm_I) {j : Nat} (v : Int32) (hj : j ∈ [2, 4, 10, 11, 12, 13, 14, 15, 16, 17, 19, 20, 35, 41, 45]) : mR s a (gm_up a 84 j v) := ⟨fun q x y => gu_row (fun e => x (by rw [e]; decide)), fun k hk => gu_nk (fun e => hk (by rw [e]; exact hj)), fun q k x y z => gu_ne (by omega)⟩
theorem mR.uq {s : Nat} (a : gm_I) {q j : Nat} (v : Int32) (h1 : 93 ≤ q) (h2 : q ≤ 112) (h3 : s * sWd q ≤ j ∧ j < s * sWd q + sWd q) : mR s a (gm_up a q j v) := ⟨fun r x y => gu_row (by omega), fun k hk => gu_ne (by omega), fun r k x y z => by
  by_cases e : r = q
  · subst e; exact gu_nk (fun e => z (by rw [e]; exact h3))
  · exact gu_ne e⟩
theorem mR.fr {s : Nat} {a b : gm_I} (h : Fr [84, 86, 87, 88, 89] a b) (h2 : ∀ j, j ≠ 10 → b 84 j = a 84 j) : mR s a b := ⟨fun q x y => h q x, fun j hj => h2 j (fun e => hj (by rw [e]; decide)), fun q j x y z => by rw [h q (fun e => by simp at e; omega)]⟩
theorem mPl_f {s : Nat} (hs : s < 2) (im : gm_I) : mR s im (mPlain im s) := by
  unfold mPlain mPlk mPl0
  have h1 : ∀ q, sWd q = 1 → s * sWd q ≤ s ∧ s < s * sWd q + sWd q := fun q h => by rw [h]; omega
  have h3 : ∀ q k, sWd q = 3 → k < 3 → s * sWd q ≤ 3 * s + k ∧ 3 * s + k < s * sWd q + sWd q := fun q k h _ => by rw [h]; omega
  refine ((((((((((mR.uq im 2 ?_ ?_ ?_).tr (mR.uq _ 0 ?_ ?_ ?_)).tr (mR.uq _ 0 ?_ ?_ ?_)).tr (mR.uq _ 0 ?_ ?_ ?_)).tr (mR.uq _ 0 ?_ ?_ ?_)).tr (mR.uq _ 0 ?_ ?_ ?_)).tr (mR.uq _ 0 ?_ ?_ ?_)).tr (mR.uq _ 0 ?_ ?_ ?_)).tr (mR.uq _ 0 ?_ ?_ ?_)).tr (mR.uq _ 0 ?_ ?_ ?_)).tr (mR.uq _ 0 ?_ ?_ ?_)
  all_goals first | decide | exact h1 _ rfl | exact h3 _ _ rfl (by decide)
theorem mPl_v {s : Nat} (hs : s < 2) (im : gm_I) : (mPlain im s 93 s = 2 ∧ mPlain im s 94 s = 0 ∧ mPlain im s 99 s = 0 ∧ mPlain im s 101 s = 0 ∧ mPlain im s 103 s = 0) ∧ (∀ k, k < 3 → mPlain im s 104 (3 * s + k) = 0 ∧ mPlain im s 105 (3 * s + k) = 0) ∧ mPlain im s 84 = im 84 := by
  refine ⟨⟨?_, ?_, ?_, ?_, ?_⟩, fun k hk => ⟨?_, ?_⟩, ?_⟩
  · unfold mPlain mPlk mPl0; simp [gm_up]
  · unfold mPlain mPlk mPl0; simp [gm_up]
  · unfold mPlain mPlk mPl0; simp [gm_up]
  · unfold mPlain mPlk mPl0; simp [gm_up]
  · unfold mPlain mPlk mPl0; simp [gm_up]
  · unfold mPlain mPlk mPl0; rcases (by omega : k = 0 ∨ k = 1 ∨ k = 2) with rfl | rfl | rfl <;> simp [gm_up]
  · unfold mPlain mPlk mPl0; rcases (by omega : k = 0 ∨ k = 1 ∨ k = 2) with rfl | rfl | rfl <;> simp [gm_up]
  · unfold mPlain mPlk mPl0; funext j; simp [gm_up]
def rdT (im2 : gm_I) (s : Nat) : gm_I := gm_up (gm_up (gm_up (gm_up (gm_up (gm_up im2 84 11 0) 84 12 0) 84 13 0) 84 15 0) 84 19 (nI s)) 84 20 0
def rdD (im2 : gm_I) (s : Nat) : gm_I := gm_up (gm_up (mPlain (rdT im2 s) s) 84 35 (nI (130 * s))) 84 41 (nI (420 * s))
theorem rdD_mr {s : Nat} (hs : s < 2) (im2 : gm_I) : mR s im2 (rdD im2 s) := by
  unfold rdD rdT
  refine ((((((((mR.up im2 _ ?_).tr (mR.up _ _ ?_)).tr (mR.up _ _ ?_)).tr (mR.up _ _ ?_)).tr (mR.up _ _ ?_)).tr (mR.up _ _ ?_)).tr (mPl_f hs _)).tr (mR.up _ _ ?_)).tr (mR.up _ _ ?_)
  all_goals decide
theorem rdD_pI {im2 : gm_I} {lm : gm_L} {K V P W : Nat → Nat} {M s : Nat} (hs : s < 2) (hk : mTks im2 lm K V P W (M + 1)) : pI K V P W M s (rdD im2 s) lm 0 := by
  obtain ⟨⟨a1, a2, a3, a4, a5⟩, b, c⟩ := mPl_v hs (rdT im2 s)
  have h84 : ∀ j, j ≠ 35 → j ≠ 41 → rdD im2 s 84 j = rdT im2 s 84 j := fun j h1 h2 => by unfold rdD; rw [gu_nk h2, gu_nk h1, c]
  have hr : ∀ q, q ≠ 84 → rdD im2 s q = mPlain (rdT im2 s) s q := fun q h => by unfold rdD; rw [gu_row h, gu_row h]
  have hT : ∀ q, 86 ≤ q → q < 93 → rdD im2 s q = im2 q := fun q h1 h2 => by
    rw [hr q (by omega)]
    have : mPlain (rdT im2 s) s q = rdT im2 s q := by
      unfold mPlain mPlk mPl0
      rw [gu_row (by omega), gu_row (by omega), gu_row (by omega), gu_row (by omega), gu_row (by omega), gu_row (by omega), gu_row (by omega), gu_row (by omega), gu_row (by omega), gu_row (by omega), gu_row (by omega)]
    rw [this]
    unfold rdT
    rw [gu_row (by omega), gu_row (by omega), gu_row (by omega), gu_row (by omega), gu_row (by omega), gu_row (by omega)]
  refine ⟨⟨Nat.zero_le _, fun x hx => absurd hx (Nat.not_lt_zero _)⟩, rfl, ⟨?_, ?_⟩, ?_, ?_, ?_, ⟨?_, fun h => absurd rfl h⟩, ⟨Nat.zero_le _, fun h => absurd rfl h⟩, ?_, ⟨fun _ => 0, fun i hi => absurd hi (Nat.not_lt_zero _), fun y hy => absurd hy (Nat.not_lt_zero _)⟩, ⟨⟨?_, ?_, ?_, ?_, ?_⟩, fun a ha => absurd ha (Nat.not_lt_zero _), fun a i ha => absurd ha (Nat.not_lt_zero _), fun a ha => absurd ha (Nat.not_lt_zero _)⟩, 0, 0, ⟨?_, ?_, Nat.zero_le _, Nat.zero_le _⟩, fun k hk3 => Or.inl ⟨rfl, ?_, ?_⟩⟩
  · rw [h84 11 (by decide) (by decide)]; unfold rdT; simp [gm_up]; rfl
  · rw [h84 13 (by decide) (by decide)]; unfold rdT; simp [gm_up]
  · unfold mTks mTk1; rw [hT 87 (by decide) (by decide), hT 88 (by decide) (by decide), hT 89 (by decide) (by decide)]; exact hk
  · rw [h84 12 (by decide) (by decide)]; unfold rdT; simp [gm_up]
  · rw [h84 19 (by decide) (by decide)]; unfold rdT; simp [gm_up]
  · rw [h84 15 (by decide) (by decide)]; unfold rdT; simp [gm_up]; rfl
  · rw [h84 20 (by decide) (by decide)]; unfold rdT; simp [gm_up]; rfl
  · rw [hr 93 (by decide), a1]; rfl
  · rw [hr 94 (by decide), a2]; rfl
  · rw [hr 99 (by decide), a3]; rfl
  · rw [hr 101 (by decide), a4]; rfl
  · rw [hr 103 (by decide), a5]; rfl
  · unfold rdD; rw [gu_nk (by decide), gu_eq, Nat.add_zero]
  · unfold rdD; rw [gu_eq, Nat.add_zero]
  · rw [hr 104 (by decide)]; exact (b k hk3).1
  · rw [hr 105 (by decide)]; exact (b k hk3).2
