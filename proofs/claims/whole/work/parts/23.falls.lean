/-! marks as small numbers; the reference: to whom it falls -/
theorem sClamp_nat (lo hi : Nat) (hlo : lo ≤ hi) (hhi : hi < 2 ^ 31) (x : Int32) : ∃ n, lo ≤ n ∧ n ≤ hi ∧ sClamp (nI lo) (nI hi) x = nI n := by
  have h1 : (nI lo).toInt = lo := nI_toInt (by omega)
  have h2 : (nI hi).toInt = hi := nI_toInt hhi
  unfold sClamp
  by_cases c1 : x < nI hi
  · simp only [c1, if_true]
    by_cases c2 : nI lo < x
    · simp only [c2, if_true]
      rw [Int32.lt_iff_toInt_lt] at c1 c2
      have h0 : ¬ x < 0 := by rw [Int32.lt_iff_toInt_lt]; simp; omega
      obtain ⟨j, hj, hx⟩ := nI_of h0
      subst hx
      rw [nI_toInt hj] at c1 c2
      exact ⟨j, by omega, by omega, rfl⟩
    · simp only [c2, if_false]; exact ⟨lo, Nat.le_refl _, hlo, rfl⟩
  · simp only [c1, if_false]
    by_cases c2 : nI lo < nI hi
    · simp only [c2, if_true]; exact ⟨hi, hlo, Nat.le_refl _, rfl⟩
    · simp only [c2, if_false]; exact ⟨lo, Nat.le_refl _, hlo, rfl⟩
theorem sJoke_nat (ma : Int32) (n : Nat) (h1 : 1 ≤ n) (h2 : n ≤ 9) : ∃ k, 1 ≤ k ∧ k ≤ 9 ∧ sJoke ma (nI n) = nI k := by
  unfold sJoke
  by_cases hm : ma = 2
  · simp only [hm, if_true]
    have : n = 1 ∨ n = 2 ∨ n = 3 ∨ n = 4 ∨ n = 5 ∨ n = 6 ∨ n = 7 ∨ n = 8 ∨ n = 9 := by omega
    rcases this with rfl | rfl | rfl | rfl | rfl | rfl | rfl | rfl | rfl
    · exact ⟨2, by decide, by decide, by decide⟩
    · exact ⟨2, by decide, by decide, by decide⟩
    · exact ⟨2, by decide, by decide, by decide⟩
    · exact ⟨4, by decide, by decide, by decide⟩
    · exact ⟨4, by decide, by decide, by decide⟩
    · exact ⟨6, by decide, by decide, by decide⟩
    · exact ⟨6, by decide, by decide, by decide⟩
    · exact ⟨8, by decide, by decide, by decide⟩
    · exact ⟨8, by decide, by decide, by decide⟩
  · simp only [hm, if_false]; exact ⟨n, h1, h2, rfl⟩
theorem vMk_nat (B : gm_I) (v : Nat → Int32) (j : Nat) (g : Int32) : ∃ n, 1 ≤ n ∧ n ≤ 9 ∧ vMk B v j g = nI n := by
  unfold vMk
  by_cases h : v 5 = 1
  · simp only [h, if_true]; exact ⟨4, by decide, by decide, rfl⟩
  · simp only [h, if_false]
    obtain ⟨n, h1, h2, h3⟩ := sClamp_nat 1 9 (by decide) (by decide) (cLaw B 1 (sV (v 3) (v 5) (v 6) (v 7) (v 8) g (if B 14 j = v 4 then 1 else 0) (nI j) (v 9)))
    rw [show (1 : Int32) = nI 1 from rfl, show (9 : Int32) = nI 9 from rfl]
    rw [show (1 : Int32) = nI 1 from rfl] at h3
    rw [h3]
    exact sJoke_nat _ n h1 h2
def vMn (B : gm_I) (v : Nat → Int32) (j : Nat) (g : Int32) : Nat := (vMk B v j g).toNatClampNeg
theorem vMn_ok (B : gm_I) (v : Nat → Int32) (j : Nat) (g : Int32) : vMk B v j g = nI (vMn B v j g) ∧ 1 ≤ vMn B v j g ∧ vMn B v j g ≤ 9 := by
  obtain ⟨n, h1, h2, h3⟩ := vMk_nat B v j g
  have : vMn B v j g = n := by unfold vMn; rw [h3, nI_clamp (by omega)]
  rw [this]; exact ⟨h3, h1, h2⟩
theorem vMn_eq {B : gm_I} {v w : Nat → Int32} (h : vEq v w) (j : Nat) (good : Int32) : vMn B v j good = vMn B w j good := by unfold vMn; rw [vMk_eq h]
/-- marks of some jurors together -/
def vTn (B : gm_I) (v : Nat → Int32) (good : Int32) (J : Nat) : Nat → Nat
  | 0 => 0
  | j + 1 => if J.testBit j then vTn B v good J j + vMn B v j good else vTn B v good J j
theorem vTn_ok (B : gm_I) (v : Nat → Int32) (good : Int32) (J n : Nat) : vTj B v good J n = nI (vTn B v good J n) ∧ vTn B v good J n ≤ 9 * n := by
  induction n with
  | zero => exact ⟨rfl, Nat.le_refl _⟩
  | succ n ih =>
    have h := vMn_ok B v n good
    simp only [vTj, vTn]
    by_cases hb : J.testBit n = true
    · simp only [hb, if_true]
      rw [ih.1, h.1, nI_add]
      exact ⟨rfl, by omega⟩
    · rw [if_neg hb, if_neg hb]
      exact ⟨ih.1, by omega⟩
theorem vTn_pos (B : gm_I) (v : Nat → Int32) (good : Int32) (J n : Nat) (j : Nat) (hj : j < n) (hb : J.testBit j = true) : 1 ≤ vTn B v good J n := by
  induction n with
  | zero => omega
  | succ n ih =>
    have h := vMn_ok B v n good
    simp only [vTn]
    by_cases he : j = n
    · subst he; simp only [hb, if_true]; omega
    · have := ih (by omega)
      split <;> omega
theorem vTn_eq {B : gm_I} {v w : Nat → Int32} (h : vEq v w) (good : Int32) (J n : Nat) : vTn B v good J n = vTn B w good J n := by
  induction n with
  | zero => rfl
  | succ n ih => simp only [vTn, ih, vMn_eq h]
theorem vTo_nat (B : gm_I) (v : Nat → Int32) (good : Int32) (n : Nat) (hn : n ≤ 8) : vTo B v good n = nI (vTn B v good 255 n) := by
  rw [← vTj_255 B v good n hn]; exact (vTn_ok B v good 255 n).1
/-- SUM by some jurors, all together by 255 -/
def vS (B : gm_I) (nj : Nat) (v : Nat → Int32) (J : Nat) : Nat := vTn B v (vGd B v) J nj
theorem vS_eq {B : gm_I} {v w : Nat → Int32} (h : vEq v w) (nj J : Nat) : vS B nj v J = vS B nj w J := by
  unfold vS; rw [vGd_eq h, vTn_eq h]
theorem vS_le (B : gm_I) (nj : Nat) (v : Nat → Int32) (J : Nat) (h : nj ≤ 8) : vS B nj v J ≤ 72 := by
  have := (vTn_ok B v (vGd B v) J nj).2; unfold vS; omega
theorem vS_pos (B : gm_I) (nj : Nat) (v : Nat → Int32) (h : nj ≠ 0) : 1 ≤ vS B nj v 255 := vTn_pos B v _ 255 nj 0 (by omega) rfl
theorem vT_S (B : gm_I) (nj : Nat) (v : Nat → Int32) (h : nj ≤ 8) : vT B nj v = nI (vS B nj v 255) := vTo_nat B v _ nj h
def gN (spk : Nat → Bool) (P T : Nat → Nat) (s : Nat) : Nat → Nat
  | 0 => 0
  | a + 1 => if spk a && P a == s then gN spk P T s a + T a else gN spk P T s a
theorem gS_nat (spk : Nat → Bool) (P T : Nat → Nat) (s n : Nat) : gS spk P (fun a => nI (T a)) s n = nI (gN spk P T s n) := by
  induction n with
  | zero => rfl
  | succ n ih => simp only [gS, gN, ih]; split
                 · rw [nI_add]
                 · rfl
theorem gN_le (spk : Nat → Bool) (P T : Nat → Nat) (s n M : Nat) (h : ∀ a, a < n → T a ≤ M) : gN spk P T s n ≤ M * n := by
  induction n with
  | zero => simp [gN]
  | succ n ih =>
    have h1 := ih (fun a ha => h a (by omega))
    have h2 := h n (by omega)
    simp only [gN]
    rw [Nat.mul_succ]
    split <;> omega
theorem gN_ext {spk spk' : Nat → Bool} {P P' T T' : Nat → Nat} {n : Nat} (h1 : ∀ a, a < n → spk a = spk' a) (h2 : ∀ a, a < n → spk' a = true → P a = P' a ∧ T a = T' a) (s : Nat) : gN spk P T s n = gN spk' P' T' s n := by
  induction n with
  | zero => rfl
  | succ n ih =>
    simp only [gN]
    rw [ih (fun a ha => h1 a (by omega)) (fun a ha => h2 a (by omega)), h1 n (by omega)]
    by_cases hs : spk' n = true
    · rw [(h2 n (by omega) hs).1, (h2 n (by omega) hs).2]
    · simp [hs]
theorem gN_pos (spk : Nat → Bool) (P T : Nat → Nat) (s n : Nat) (h : ∀ a, a < n → spk a = true → 1 ≤ T a) : 0 < gN spk P T s n ↔ 0 < gN spk P (fun _ => 1) s n := by
  induction n with
  | zero => simp [gN]
  | succ n ih =>
    have ih' := ih (fun a ha => h a (by omega))
    simp only [gN]
    by_cases hc : (spk n && P n == s) = true
    · have h1 := h n (by omega) (by simp at hc; exact hc.1)
      rw [if_pos hc, if_pos hc]
      constructor <;> intro <;> omega
    · rw [if_neg hc, if_neg hc]; exact ih'
/-- to whom it falls, by sums and numbers of speeches -/
def gw (S N : Nat → Nat) : Nat → Option Nat
  | 0 => none
  | s + 1 => match gw S N s with
    | none => if 0 < S s then some s else none
    | some b => if S b * N s < S s * N b then some s else some b
theorem gw_gb {S N : Nat → Nat} {n : Nat} (h : ∀ s, s < n → (0 < S s ↔ 0 < N s)) : gw S N n = gb S N n := by
  induction n with
  | zero => rfl
  | succ n ih =>
    simp only [gw, gb, ih (fun s hs => h s (by omega))]
    have hn := h n (by omega)
    cases hg : gb S N n with
    | none => simp only [hn]
    | some b =>
      simp only []
      by_cases hc : S b * N n < S n * N b
      · have : 0 < N n := by
          apply hn.mp
          apply Nat.pos_of_ne_zero
          intro h0
          rw [h0] at hc
          simp at hc
        simp [hc, this]
      · simp [hc]
theorem gw_none {S N : Nat → Nat} {n : Nat} (h : ∀ s, s < n → S s = 0) : gw S N n = none := by
  induction n with
  | zero => rfl
  | succ n ih => simp only [gw, ih (fun s hs => h s (by omega)), h n (by omega)]; rfl
theorem gw_lt {S N : Nat → Nat} {n b : Nat} (h : gw S N n = some b) : b < n := by
  induction n generalizing b with
  | zero => cases h
  | succ n ih =>
    simp only [gw] at h
    cases hg : gw S N n with
    | none => rw [hg] at h; simp only [] at h; split at h
              · cases h; omega
              · cases h
    | some c => rw [hg] at h; simp only [] at h; have := ih hg
                split at h <;> cases h <;> omega
theorem gw_ext {S S' N N' : Nat → Nat} {n : Nat} (h : ∀ s, s < n → S s = S' s ∧ N s = N' s) : gw S N n = gw S' N' n := by
  induction n with
  | zero => rfl
  | succ n ih =>
    simp only [gw]
    rw [ih (fun s hs => h s (by omega)), (h n (by omega)).1, (h n (by omega)).2]
    cases hg : gw S' N' n with
    | none => rfl
    | some b =>
      have hb := gw_lt hg
      simp only [(h b (by omega)).1, (h b (by omega)).2]
/-- a row of the reference in order -/
def rOk (r : Nat → Int32) (nm ns : Nat) : Prop := (∀ a, a < nm → (∃ q, q < ns ∧ r a = nI q) ∧ (r (7 + a) = -2 ∨ ∃ q, q < ns ∧ r (7 + a) = nI q)) ∧ rOld r nm
def mP (im : gm_I) (l a : Nat) : Nat := (mPl (im 117 (7 + a)) (im 117 a) (im 93 l)).toNatClampNeg
theorem mPl_ok {left side : Int32} {ns : Nat} (hns : ns = 2 ∨ ns = 3) (h1 : ∃ q, q < ns ∧ side = nI q) (h2 : left = -2 ∨ ∃ q, q < ns ∧ left = nI q) : mPl left side (nI ns) = sPl left side (nI ns) ∧ ∃ p, p < ns ∧ mPl left side (nI ns) = nI p := by
  obtain ⟨q, hq, rfl⟩ := h1
  unfold mPl sPl
  rcases h2 with rfl | ⟨p, hp, rfl⟩
  · have : ¬ (0 : Int32) ≤ -2 := by decide
    simp only [this, if_false, if_true]
    rcases hns with rfl | rfl
    · have : q = 0 ∨ q = 1 := by omega
      rcases this with rfl | rfl
      · exact ⟨by decide, 1, by decide, by decide⟩
      · exact ⟨by decide, 0, by decide, by decide⟩
    · have : q = 0 ∨ q = 1 ∨ q = 2 := by omega
      rcases this with rfl | rfl | rfl
      · exact ⟨by decide, 1, by decide, by decide⟩
      · exact ⟨by decide, 2, by decide, by decide⟩
      · exact ⟨by decide, 0, by decide, by decide⟩
  · have : p = 0 ∨ p = 1 ∨ p = 2 := by omega
    have h0 : (0 : Int32) ≤ nI p := by rcases this with rfl | rfl | rfl <;> decide
    have h2 : ¬ nI p = -2 := by rcases this with rfl | rfl | rfl <;> decide
    simp only [h0, h2, if_true, if_false]
    exact ⟨trivial, p, hp, rfl⟩
theorem mP_ok {B im : gm_I} {l nm nk nj ns : Nat} (hR : iRoll B l nm nk nj ns) (ho : Off B im) (hr : rOk (im 117) nm ns) {a : Nat} (ha : a < nm) : mPl (im 117 (7 + a)) (im 117 a) (im 93 l) = nI (mP im l a) ∧ mP im l a < 3 ∧ mP im l a < ns := by
  have hns := iR_ns hR
  obtain ⟨-, p, hp, he⟩ := mPl_ok hns (hr.1 a ha).1 (hr.1 a ha).2
  have : mP im l a = p := by unfold mP; rw [iR_93 hR ho, he, nI_clamp (by omega)]
  rw [this, iR_93 hR ho, he]
  exact ⟨rfl, by omega, hp⟩
/-- SUM of a speech as it stands in the row -/
def mSm (B im : gm_I) (l nj a : Nat) (sl : Int32) (J : Nat) : Nat := vS B nj (mV im l a (im 117 (28 + a)) sl) J
theorem M_fillsN {B im : gm_I} {l nm nk nj ns : Nat} (hR : iRoll B l nm nk nj ns) (ho : Off B im) (hr : rOk (im 117) nm ns) (m : Int32) (SL J : Nat) (hSL : SL < 256) (hJ : J < 256) (lm : gm_L) : ∃ im', gm_den 220 0 [.ref 84, .int m, .int (nI SL), .int (nI J), .null, .null, .null] [] 128 gm_RF im lm = some (none, 128, gm_RF, im', lm) ∧ nOff im im' ∧ tally im' (fun s => gN (mSpk im m) (mP im l) (fun a => mSm B im l nj a (b32 (SL.testBit a)) J) s nm) (fun s => gN (mSpk im m) (mP im l) (fun _ => 1) s nm) := by
  obtain ⟨im', h1, h2, h3⟩ := M_fillsSums hR ho hr.2 m SL J hSL hJ (mP im l) (fun a ha _ => ⟨(mP_ok hR ho hr ha).1, (mP_ok hR ho hr ha).2.1⟩) lm
  refine ⟨im', h1, h2, ?_⟩
  intro s hs
  obtain ⟨h4, h5⟩ := h3 s hs
  have e : (fun a => mT3 B im l nj a (b32 (SL.testBit a)) J) = fun a => nI (mSm B im l nj a (b32 (SL.testBit a)) J) := by
    funext a; unfold mT3 mSm vS; exact (vTn_ok _ _ _ _ _).1
  have hm7 := iR_nm hR
  refine ⟨?_, ?_, ?_, ?_⟩
  · rw [h4, e, gS_nat]
  · rw [h5]; exact gS_nat (mSpk im m) (mP im l) (fun _ => 1) s nm
  · have := gN_le (mSpk im m) (mP im l) (fun a => mSm B im l nj a (b32 (SL.testBit a)) J) s nm 72 (fun a _ => vS_le _ _ _ _ (iR_nj hR))
    simp only []
    omega
  · have := gN_le (mSpk im m) (mP im l) (fun _ => 1) s nm 1 (fun a _ => Nat.le_refl _)
    simp only []
    omega
/-- to whom a motion falls by a row, if some slip -/
def mFall (B im : gm_I) (l nm nj : Nat) (m : Int32) (SL : Nat) : Option Nat := gw (fun s => gN (mSpk im m) (mP im l) (fun a => mSm B im l nj a (b32 (SL.testBit a)) 255) s nm) (fun s => gN (mSpk im m) (mP im l) (fun _ => 1) s nm) 3
theorem M_fallsTo {B im : gm_I} {l nm nk nj ns : Nat} (hR : iRoll B l nm nk nj ns) (ho : Off B im) (hr : rOk (im 117) nm ns) (m : Int32) (SL : Nat) (hSL : SL < 256) (lm : gm_L) : ∃ im', gm_den 223 0 [.ref 84, .int m, .int (nI SL)] [] 128 gm_RF im lm = some (some (.int (eO (mFall B im l nm nj m SL))), 128, gm_RF, im', lm) ∧ nOff im im' ∧ (nj ≠ 0 → tally im' (fun s => gN (mSpk im m) (mP im l) (fun a => mSm B im l nj a (b32 (SL.testBit a)) 255) s nm) (fun s => gN (mSpk im m) (mP im l) (fun _ => 1) s nm)) := by
  have hl2 := iR_l hR
  have hn8 := iR_nj hR
  by_cases hn : nj = 0
  · refine ⟨im, ?_, nOff.rf im, fun h => absurd hn h⟩
    have : mFall B im l nm nj m SL = none := by
      apply gw_none
      intro s hs
      have h1 : ∀ a, mSm B im l nj a (b32 (SL.testBit a)) 255 = 0 := fun a => by subst hn; rfl
      have h2 := gN_le (mSpk im m) (mP im l) (fun a => mSm B im l nj a (b32 (SL.testBit a)) 255) s nm 0 (fun a _ => Nat.le_of_eq (h1 a))
      omega
    rw [this]
    have h0 : nI nj = 0 := by rw [hn]; rfl
    simp (decide := true) only [QX12_fallsTo, iR_18 hR ho, i2 l hl2, iR_101 hR ho, h0, if_true, if_false, eO]
  · obtain ⟨im', h1, h2, h3⟩ := M_fillsN hR ho hr m SL 255 hSL (by decide) lm
    refine ⟨im', ?_, h2, fun _ => h3⟩
    have h0 : ¬ nI nj = 0 := nI_ne0 (by omega) (by omega)
    have h4 := M_bestSide h3 lm
    have e255 : (255 : Int32) = nI 255 := rfl
    simp only [QX12_fallsTo, iR_18 hR ho, i2 l hl2, iR_101 hR ho, h0, if_true, not_false_eq_true, e255, h1, gm_cont_v, h4, gm_cont_i]
    rw [← gw_gb]
    · rfl
    · intro s _
      exact gN_pos _ _ _ s nm (fun a _ _ => vS_pos _ _ _ hn)
