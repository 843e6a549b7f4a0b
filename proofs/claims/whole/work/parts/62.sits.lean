/-! a session, the reference's side -/
def rV (B : gm_I) (l : Nat) (r : Nat → Int32) (a : Nat) (sl : Int32) : Nat → Int32 := fun i => if i = 2 then nI a else if i = 3 then B 96 (7 * l + a) else if i = 4 then mPl (r (7 + a)) (r a) (B 93 l) else if i = 5 then r (28 + a) else if i = 6 then sl else if i = 7 then r (35 + a) else if i = 8 then r 75 else if i = 9 then (if r (7 + a) < 0 then 0 else 1) else if i = 10 then (if r (49 + a) < 0 then -1 else r (56 + a)) else 0
theorem mV_rV {B im : gm_I} (ho : Off B im) (l a : Nat) (sl : Int32) : mV im l a (im 117 (28 + a)) sl = rV B l (im 117) a sl := by
  unfold mV rV
  rw [ho.1 96 rfl, ho.1 93 rfl]
theorem rV_loc {B : gm_I} {l : Nat} {r r' : Nat → Int32} {a : Nat} (h : ∀ k, k < 10 → k ≠ 2 → r' (7 * k + a) = r (7 * k + a)) (h75 : r' 75 = r 75) (sl : Int32) : rV B l r' a sl = rV B l r a sl := by
  have e0 : r' a = r a := by have := h 0 (by decide) (by decide); rwa [Nat.mul_zero, Nat.zero_add] at this
  have e1 : r' (7 + a) = r (7 + a) := h 1 (by decide) (by decide)
  have e4 : r' (28 + a) = r (28 + a) := h 4 (by decide) (by decide)
  have e5 : r' (35 + a) = r (35 + a) := h 5 (by decide) (by decide)
  have e7 : r' (49 + a) = r (49 + a) := h 7 (by decide) (by decide)
  have e8 : r' (56 + a) = r (56 + a) := h 8 (by decide) (by decide)
  unfold rV
  rw [e0, e1, e4, e5, e7, e8, h75]
def vPy (B : gm_I) (nj : Nat) (v : Nat → Int32) (coin : Int32) : Int32 := if vFn B v (nI (vS B nj v 255) / nI nj) < coin then vFn B v (nI (vS B nj v 255) / nI nj) else coin
theorem M_fine0 {B im : gm_I} {l nm nk nj ns : Nat} (hR : iRoll B l nm nk nj ns) (ho : Off B im) (hold : rOld (im 117) nm) {a : Nat} (ha : a < nm) (h0 : nj ≠ 0) (sl : Int32) (lm : gm_L) : ∃ im', gm_den 224 0 [.ref 84, .int (nI a), .int sl, .null, .null] [] 128 gm_RF im lm = some (some (.int (vPy B nj (rV B l (im 117) a sl) (im 117 (14 + a)))), 128, gm_RF, im', lm) ∧ mOff im im' := by
  have hm7 := iR_nm hR
  have hn8 := iR_nj hR
  have hl2 := iR_l hR
  have ha7 : a < 7 := by omega
  obtain ⟨im1, h1, o1⟩ := M_sumNow hR ho hold a sl lm ha
  rw [vT_S _ _ _ hn8, mV_rV ho] at h1
  have O1 := ho.tr o1.off
  unfold vPy
  generalize hq : nI (vS B nj (rV B l (im 117) a sl) 255) / nI nj = q at *
  let im2 := mLk im1 l a (im1 117 (28 + a)) sl
  have o2 : mOff im1 im2 := mLk_off im1 l a (im1 117 (28 + a)) sl
  let im3 := gm_up (gm_up im2 114 3 0) 114 5 q
  have o3 : mOff im im3 := by
    refine (o1.tr o2).tr ⟨fun p h1 h2 h3 => ?_, fun k hk => ?_⟩
    · show gm_up (gm_up im2 114 3 0) 114 5 q p = _
      rw [gu_row h1, gu_row h1]
    · show gm_up (gm_up im2 114 3 0) 114 5 q 84 k = _
      rw [gu_ne (by decide), gu_ne (by decide)]
  have O3 := ho.tr o3.off
  have e117 : im1 117 = im 117 := o1.1 117 (by decide) (by decide) (by decide)
  have e96 : im1 96 = B 96 := O1.1 96 rfl
  have hva : ∀ i, i < 9 → im3 114 i = sV (im1 96 (7 * l + a)) (im1 117 (28 + a)) sl 0 (im1 117 75) q 0 (nI a) (if im1 117 (7 + a) < 0 then 0 else 1) i := by
    intro i hi
    have : i = 0 ∨ i = 1 ∨ i = 2 ∨ i = 3 ∨ i = 4 ∨ i = 5 ∨ i = 6 ∨ i = 7 ∨ i = 8 := by omega
    rcases this with rfl | rfl | rfl | rfl | rfl | rfl | rfl | rfl | rfl <;> simp [im3, im2, mLk, gm_up, sV]
  obtain ⟨im4, h4, o4⟩ := (M_asks l 0 0 99 im3 lm (iR_18 hR O3) hl2).2.2 (mLaws_B O3.law (iR_ml hR)).2.2
  have e117b : im4 117 = im 117 := (o3.tr o4).1 117 (by decide) (by decide) (by decide)
  have hval : mClamp 0 99 (mLaw im3 (3 * l + 2) 0 (im3 114)) = vFn B (rV B l (im 117) a sl) q := by
    rw [mLaw_B O3.law, mLaw_va hva (iR_ml hR).2.2, clamp_eq (by decide)]
    have hx := iR_lw hR (k := 2) (by decide) (sV (im1 96 (7 * l + a)) (im1 117 (28 + a)) sl 0 (im1 117 75) q 0 (nI a) (if im1 117 (7 + a) < 0 then 0 else 1))
    simp only [mLawX] at hx
    simp (decide := true) only [if_false] at hx
    rw [← hx, e117, e96]
    unfold vFn
    simp (decide := true) only [rV, if_true, if_false]
  rw [hval] at h4
  refine ⟨im4, ?_, o3.tr o4⟩
  have hz : ¬ nI nj = 0 := nI_ne0 (by omega) (by omega)
  have n1 : Value.category .null = 1 := rfl
  have hlk := M_looks a l (im1 117 (28 + a)) sl im1 lm ha7 (iR_18 hR O1) hl2
  simp (decide := true) only [QX12_fineOf, h1, gm_cont_i, iR_18 hR O1, i2 l hl2, iR_101 hR O1, hz, if_true, if_false, hq, gm_cat_i, n1, ixr7 a ha7, hlk, gm_cont_v, i114]
  rw [show gm_up (gm_up (mLk im1 l a (im1 117 (28 + a)) sl) 114 3 0) 114 5 q = im3 from rfl, h4]
  have hr14 : im4 117 (14 + a) = im 117 (14 + a) := by rw [e117b]
  by_cases hc : vFn B (rV B l (im 117) a sl) q < im 117 (14 + a)
  · have hc2 := Int32.not_le.mpr hc
    simp (decide := true) only [QX12_fineOf, gm_cont_i, gm_cat_i, n1, ixr7 a ha7, if_true, if_false, hr14, hc, hc2]
  · have hc2 := Int32.not_lt.mp hc
    simp (decide := true) only [QX12_fineOf, gm_cont_i, gm_cat_i, n1, ixr7 a ha7, if_true, if_false, hr14, hc, hc2]
def sitU (R : Nat → Int32) (a : Nat) (p g s : Int32) : Nat → Int32 := upd (upd (upd (upd (upd (upd (upd (upd (upd R (14 + a) (R (14 + a) - p)) 76 (R 76 + p)) (42 + a) g) (63 + a) (R (63 + a) + s)) (35 + a) 0) (21 + a) (-2)) (28 + a) 0) (49 + a) (-2)) (56 + a) 0
def sitN (R : Nat → Int32) (a : Nat) (p g s : Int32) (k : Nat) : Int32 := if k = 2 then R (14 + a) - p else if k = 3 then -2 else if k = 4 then 0 else if k = 5 then 0 else if k = 6 then g else if k = 7 then -2 else if k = 8 then 0 else if k = 9 then R (63 + a) + s else R (7 * k + a)
theorem upd_eq (v : Nat → Int32) (k : Nat) (x : Int32) : upd v k x k = x := by simp [upd]
theorem upd_ne (v : Nat → Int32) {k i : Nat} (x : Int32) (h : i ≠ k) : upd v k x i = v i := by simp [upd, h]
theorem sitU_own (R : Nat → Int32) {a : Nat} (ha : a < 7) (p g s : Int32) {k : Nat} (hk : k < 10) : sitU R a p g s (7 * k + a) = sitN R a p g s k := by
  rcases (by omega : k = 0 ∨ k = 1 ∨ k = 2 ∨ k = 3 ∨ k = 4 ∨ k = 5 ∨ k = 6 ∨ k = 7 ∨ k = 8 ∨ k = 9) with rfl | rfl | rfl | rfl | rfl | rfl | rfl | rfl | rfl | rfl
  all_goals
    unfold sitU sitN
    simp only [upd]
    repeat (first | rw [if_pos (by omega)] | rw [if_neg (by omega)])
    try simp (decide := true) only [if_true, if_false]
theorem sitU_oth (R : Nat → Int32) {a j : Nat} (ha : a < 7) (p g s : Int32) (h : ∀ k, 2 ≤ k → k < 10 → j ≠ 7 * k + a) (h76 : j ≠ 76) : sitU R a p g s j = R j := by
  have h2 := h 2 (by decide) (by decide)
  have h3 := h 3 (by decide) (by decide)
  have h4 := h 4 (by decide) (by decide)
  have h5 := h 5 (by decide) (by decide)
  have h6 := h 6 (by decide) (by decide)
  have h7 := h 7 (by decide) (by decide)
  have h8 := h 8 (by decide) (by decide)
  have h9 := h 9 (by decide) (by decide)
  unfold sitU
  rw [upd_ne _ _ (by omega), upd_ne _ _ (by omega), upd_ne _ _ (by omega), upd_ne _ _ (by omega), upd_ne _ _ (by omega), upd_ne _ _ (by omega), upd_ne _ _ (by omega), upd_ne _ _ (by omega), upd_ne _ _ (by omega)]
theorem sitU_76 (R : Nat → Int32) {a : Nat} (ha : a < 7) (p g s : Int32) : sitU R a p g s 76 = R 76 + p := by
  unfold sitU
  rw [upd_ne _ _ (by omega), upd_ne _ _ (by omega), upd_ne _ _ (by omega), upd_ne _ _ (by omega), upd_ne _ _ (by omega), upd_ne _ _ (by omega), upd_ne _ _ (by omega), upd_eq]
def sitF (R : Nat → Int32) (f : Nat → Bool) (P G S : Nat → Int32) : Nat → Nat → Int32
  | 0 => R
  | a + 1 => if f a then sitU (sitF R f P G S a) a (P a) (G a) (S a) else sitF R f P G S a
def gI (f : Nat → Bool) (P : Nat → Int32) : Nat → Int32
  | 0 => 0
  | a + 1 => if f a then gI f P a + P a else gI f P a
theorem sitF_ok (R : Nat → Int32) (f : Nat → Bool) (P G S : Nat → Int32) (n : Nat) (hn : n ≤ 7) : (∀ b, b < 7 → ∀ k, k < 10 → sitF R f P G S n (7 * k + b) = if b < n ∧ f b = true then sitN R b (P b) (G b) (S b) k else R (7 * k + b)) ∧ sitF R f P G S n 76 = R 76 + gI f P n ∧ ∀ j, 70 ≤ j → j ≠ 76 → sitF R f P G S n j = R j := by
  induction n with
  | zero =>
    refine ⟨fun b hb k hk => by rw [if_neg (by omega)]; rfl, ?_, fun j _ _ => rfl⟩
    show R 76 = R 76 + 0
    rw [Int32.add_zero]
  | succ n ih =>
    obtain ⟨h1, h2, h3⟩ := ih (by omega)
    cases hf : f n with
    | false =>
      have e : sitF R f P G S (n + 1) = sitF R f P G S n := by simp only [sitF, hf]; rfl
      have e2 : gI f P (n + 1) = gI f P n := by simp only [gI, hf]; rfl
      rw [e, e2]
      refine ⟨fun b hb k hk => ?_, h2, h3⟩
      rw [h1 b hb k hk]
      by_cases c : b < n ∧ f b = true
      · rw [if_pos c, if_pos ⟨by omega, c.2⟩]
      · rw [if_neg c, if_neg]
        rintro ⟨c1, c2⟩
        by_cases e : b = n
        · rw [e, hf] at c2; cases c2
        · exact c ⟨by omega, c2⟩
    | true =>
      have e : sitF R f P G S (n + 1) = sitU (sitF R f P G S n) n (P n) (G n) (S n) := by simp only [sitF, hf]; rfl
      have e2 : gI f P (n + 1) = gI f P n + P n := by simp only [gI, hf]; rfl
      rw [e, e2]
      refine ⟨fun b hb k hk => ?_, ?_, fun j hj hj6 => ?_⟩
      · by_cases eb : b = n
        · subst eb
          rw [sitU_own _ hb _ _ _ hk, if_pos ⟨by omega, hf⟩]
          have own : ∀ k, k < 10 → sitF R f P G S b (7 * k + b) = R (7 * k + b) := fun k hk => by rw [h1 b hb k hk, if_neg (by omega)]
          have o2 : sitF R f P G S b (14 + b) = R (14 + b) := own 2 (by decide)
          have o9 : sitF R f P G S b (63 + b) = R (63 + b) := own 9 (by decide)
          unfold sitN
          rw [o2, o9, own k hk]
        · rw [sitU_oth _ (show n < 7 by omega) _ _ _ (fun k' _ _ => by omega) (by omega), h1 b hb k hk]
          by_cases c : b < n ∧ f b = true
          · rw [if_pos c, if_pos ⟨by omega, c.2⟩]
          · rw [if_neg c, if_neg (fun c' => c ⟨by omega, c'.2⟩)]
      · rw [sitU_76 _ (by omega), h2, Int32.add_assoc]
      · rw [sitU_oth _ (show n < 7 by omega) _ _ _ (fun k' _ _ => by omega) hj6, h3 j hj hj6]
