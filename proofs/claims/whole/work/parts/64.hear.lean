/-! a session, the class's side -/
def heaU (C : Nat → Int32) (a : Nat) (p g s : Int32) : Nat → Int32 := upd (upd (upd (upd (upd (upd (upd (upd (upd C (10 * a + 2) (C (10 * a + 2) - p)) 76 (C 76 + p)) (10 * a + 6) g) (10 * a + 9) (C (10 * a + 9) + s)) (10 * a + 5) 0) (10 * a + 3) (-2)) (10 * a + 4) (-2)) (10 * a + 7) (-2)) (10 * a + 8) (-1)
theorem C_hear {B im : gm_I} {l nm nk nj ns : Nat} (hR : iRoll B l nm nk nj ns) (ho : Off B im) (h0 : nj ≠ 0) {a : Nat} (ha : a < nm) (lm : gm_L) : ∃ im', gm_den 157 0 [.ref 0, .int (nI a), .null, .null, .null, .null] [] 128 gm_RF im lm = some (some (.long (ent B nj (upd (cV B a) 6 (b32 (sSl B (B 11 1) (B 22 75) a))))), 128, gm_RF, im', lm) ∧ Fr [19, 22, 69, 70] im im' ∧ im' 22 = heaU (im 22) a (vPy B nj (upd (cV B a) 6 (b32 (sSl B (B 11 1) (B 22 75) a))) (B 22 (10 * a + 2))) (vGd B (upd (cV B a) 6 (b32 (sSl B (B 11 1) (B 22 75) a)))) (b32 (sSl B (B 11 1) (B 22 75) a)) := by
  have hm7 := iR_nm hR
  have ha7 : a < 7 := by omega
  have n1 : Value.category .null = 1 := rfl
  have e22 : im 22 = B 22 := ho.1 22 rfl
  have e11 : im 11 = B 11 := ho.1 11 rfl
  have e12 : im 12 = B 12 := ho.1 12 rfl
  have k22 : cTake im a 22 = B 22 := by rw [cTake_fr im a 22 (by decide), e22]
  have k11 : cTake im a 11 = B 11 := by rw [cTake_fr im a 11 (by decide), e11]
  have k12 : cTake im a 12 = B 12 := by rw [cTake_fr im a 12 (by decide), e12]
  have hsl : (if B 12 (4 * a + 2) ≤ sLot (B 11 1) (16 * B 22 75 + nI a) then (0 : Int32) else 1) = b32 (sSl B (B 11 1) (B 22 75) a) := by
    unfold sSl
    by_cases h : sLot (B 11 1) (16 * B 22 75 + nI a) < B 12 (4 * a + 2)
    · rw [if_neg (Int32.not_le.mpr h), decide_eq_true h]; rfl
    · rw [if_pos (Int32.not_lt.mp h), decide_eq_false h]; rfl
  generalize b32 (sSl B (B 11 1) (B 22 75) a) = sl at *
  let im1 := gm_up (cTake im a) 69 6 sl
  have f1 : Fr [69] im im1 := (cTake_fr im a).up (by simp)
  have hv : vEq (im1 69) (upd (cV B a) 6 sl) := by
    show vEq (gm_up (cTake im a) 69 6 sl 69) _
    rw [gu_upd]
    exact (cTake_v ho a).up 6 sl
  have o1 : Off B im1 := ho.tr (f1.off (by decide))
  obtain ⟨im2, h2, f2⟩ := C_goodB hR o1 hv lm
  have hv2 : vEq (im2 69) (upd (cV B a) 6 sl) := by rw [f2 69 (by decide)]; exact hv
  have o2 : Off B im2 := o1.tr (f2.off fr19)
  obtain ⟨im3, h3, f3⟩ := C_totB hR o2 hv2 (vGd B (upd (cV B a) 6 sl)) lm
  have hv3 : vEq (im3 69) (upd (cV B a) 6 sl) := by rw [f3 69 (by decide)]; exact hv2
  have o3 : Off B im3 := o2.tr (f3.off fr19)
  obtain ⟨im4, h4, f4⟩ := C_fineB hR o3 hv3 h0 (nI (vTn B (upd (cV B a) 6 sl) (vGd B (upd (cV B a) 6 sl)) 255 nj)) lm
  have hv4 : vEq (im4 69) (upd (cV B a) 6 sl) := by rw [f4 69 (by decide)]; exact hv3
  have o4 : Off B im4 := o3.tr (f4.off fr19)
  have e4 : im4 22 = B 22 := o4.1 22 rfl
  have q4 := hv4 4 (by decide) (by decide)
  have q6 : im4 69 6 = sl := by rw [hv4 6 (by decide) (by decide)]; rfl
  have F4 : Fr [19, 22, 69, 70] im im4 := (((f1.mo (K := [19, 22, 69, 70]) (by decide)).tr (f2.mo (by decide))).tr (f3.mo (by decide))).tr (f4.mo (by decide))
  unfold vPy ent
  have hvS : vS B nj (upd (cV B a) 6 sl) 255 = vTn B (upd (cV B a) 6 sl) (vGd B (upd (cV B a) 6 sl)) 255 nj := rfl
  rw [hvS]
  generalize vTn B (upd (cV B a) 6 sl) (vGd B (upd (cV B a) 6 sl)) 255 nj = T at *
  generalize vGd B (upd (cV B a) 6 sl) = g at *
  generalize hp : (if vFn B (upd (cV B a) 6 sl) (nI T / nI nj) < B 22 (10 * a + 2) then vFn B (upd (cV B a) 6 sl) (nI T / nI nj) else B 22 (10 * a + 2)) = p at *
  let im5 := gm_up (gm_up im4 22 (10 * a + 2) (B 22 (10 * a + 2) - p)) 22 76 (B 22 76 + p)
  let im6 := gm_up im5 22 (10 * a + 6) g
  let im7 := gm_up im6 22 (10 * a + 9) (B 22 (10 * a + 9) + sl)
  let im8 := gm_up im7 22 (10 * a + 5) 0
  have p76 : im4 22 76 = B 22 76 := by rw [e4]
  have p2 : im4 22 (10 * a + 2) = B 22 (10 * a + 2) := by rw [e4]
  have p9 : im6 22 (10 * a + 9) = B 22 (10 * a + 9) := by
    show gm_up (gm_up (gm_up im4 22 _ _) 22 76 _) 22 (10 * a + 6) g 22 (10 * a + 9) = _
    rw [gu_nk (by omega), gu_nk (by omega), gu_nk (by omega), e4]
  have p6 : im6 69 6 = sl := by
    show gm_up (gm_up (gm_up im4 22 _ _) 22 76 _) 22 (10 * a + 6) g 69 6 = _
    rw [gu_ne (by decide), gu_ne (by decide), gu_ne (by decide)]; exact q6
  have p4 : cHush im8 a 69 4 = upd (cV B a) 6 sl 4 := by
    show gm_up (gm_up (gm_up (gm_up (gm_up (gm_up (gm_up (gm_up (gm_up im4 22 _ _) 22 76 _) 22 _ _) 22 _ _) 22 _ _) 22 _ _) 22 _ _) 22 _ _) 22 _ _ 69 4 = _
    rw [gu_ne (by decide), gu_ne (by decide), gu_ne (by decide), gu_ne (by decide), gu_ne (by decide), gu_ne (by decide), gu_ne (by decide), gu_ne (by decide), gu_ne (by decide)]; exact q4
  refine ⟨cHush im8 a, ?_, ?_, ?_⟩
  · simp (decide := true) only [QX11_hear, C_take a im lm ha7, gm_cont_v, gm_cont_i, gm_cat_i, n1, C_day, k11, k22, C_lotOfTen, C_slipOf a _ lm ha7, k12, if_true, if_false]
    have key : ∀ {X : Type} (A : Int32 → X), (if B 12 (4 * a + 2) ≤ sLot (B 11 1) (16 * B 22 75 + nI a) then A 0 else A 1) = A sl := fun A => by
      rw [← hsl]; split <;> rfl
    refine (key (fun s => gm_cont 157 66 [.ref 0, .int (nI a), .int (sLot (B 11 1) (16 * B 22 75 + nI a)), .null, .null, .null] [] 128 (gm_den 71 0 [.ref 69] [] 128 gm_RF (gm_up (cTake im a) 69 6 s) lm))).trans ?_
    show gm_cont 157 66 _ [] 128 (gm_den 71 0 [.ref 69] [] 128 gm_RF im1 lm) = _
    rw [h2]
    simp (decide := true) only [QX11_hear, gm_cont_i, gm_cat_i, n1, if_true, h3, h4, C_get a im4 lm ha7, p2]
    rw [min_eq, hp]
    simp (decide := true) only [QX11_hear, gm_cont_v, gm_cont_i, gm_cat_i, n1, if_true, C_pay a p im4 lm ha7, p2, p76]
    rw [show gm_up (gm_up im4 22 (10 * a + 2) (B 22 (10 * a + 2) - p)) 22 76 (B 22 76 + p) = im5 from rfl]
    simp (decide := true) only [QX11_hear, gm_cont_v, gm_cont_i, gm_cat_i, n1, if_true, C_set a g im5 lm ha7]
    rw [show gm_up im5 22 (10 * a + 6) g = im6 from rfl]
    simp (decide := true) only [QX11_hear, gm_cont_v, gm_cont_i, gm_cat_i, n1, if_true, C_get a im6 lm ha7, p9, p6, C_set a _ im6 lm ha7]
    rw [show gm_up im6 22 (10 * a + 9) (B 22 (10 * a + 9) + sl) = im7 from rfl]
    simp (decide := true) only [QX11_hear, gm_cont_v, gm_cont_i, gm_cat_i, n1, if_true, C_set a _ im7 lm ha7]
    rw [show gm_up im7 22 (10 * a + 5) 0 = im8 from rfl]
    simp (decide := true) only [QX11_hear, gm_cont_v, gm_cont_i, gm_cat_i, n1, if_true, C_hush a im8 lm ha7, p4, C_part, gm_cont_l]
  · exact ((((((((F4.up (by simp)).up (by simp)).up (by simp)).up (by simp)).up (by simp)).up (by simp)).up (by simp)).up (by simp)).up (by simp)
  · show gm_up (gm_up (gm_up (gm_up (gm_up (gm_up (gm_up (gm_up (gm_up im4 22 _ _) 22 76 _) 22 _ _) 22 _ _) 22 _ _) 22 _ _) 22 _ _) 22 _ _) 22 _ _ 22 = _
    rw [gu_upd, gu_upd, gu_upd, gu_upd, gu_upd, gu_upd, gu_upd, gu_upd, gu_upd, e4, e22]
    rfl
def heaN (C : Nat → Int32) (a : Nat) (p g s : Int32) (k : Nat) : Int32 := if k = 2 then C (10 * a + 2) - p else if k = 3 then -2 else if k = 4 then -2 else if k = 5 then 0 else if k = 6 then g else if k = 7 then -2 else if k = 8 then -1 else if k = 9 then C (10 * a + 9) + s else C (10 * a + k)
theorem heaU_own (C : Nat → Int32) {a : Nat} (ha : a < 7) (p g s : Int32) {k : Nat} (hk : k < 10) : heaU C a p g s (10 * a + k) = heaN C a p g s k := by
  rcases (by omega : k = 0 ∨ k = 1 ∨ k = 2 ∨ k = 3 ∨ k = 4 ∨ k = 5 ∨ k = 6 ∨ k = 7 ∨ k = 8 ∨ k = 9) with rfl | rfl | rfl | rfl | rfl | rfl | rfl | rfl | rfl | rfl
  all_goals
    unfold heaU heaN
    simp only [upd]
    repeat (first | rw [if_pos (by omega)] | rw [if_neg (by omega)])
    try simp (decide := true) only [if_true, if_false]
theorem heaU_oth (C : Nat → Int32) {a j : Nat} (p g s : Int32) (h : ∀ k, k < 10 → j ≠ 10 * a + k) (h76 : j ≠ 76) : heaU C a p g s j = C j := by
  have h2 := h 2 (by decide)
  have h3 := h 3 (by decide)
  have h4 := h 4 (by decide)
  have h5 := h 5 (by decide)
  have h6 := h 6 (by decide)
  have h7 := h 7 (by decide)
  have h8 := h 8 (by decide)
  have h9 := h 9 (by decide)
  unfold heaU
  rw [upd_ne _ _ h8, upd_ne _ _ h7, upd_ne _ _ h4, upd_ne _ _ h3, upd_ne _ _ h5, upd_ne _ _ h9, upd_ne _ _ h6, upd_ne _ _ h76, upd_ne _ _ h2]
theorem heaU_76 (C : Nat → Int32) {a : Nat} (ha : a < 7) (p g s : Int32) : heaU C a p g s 76 = C 76 + p := by
  unfold heaU
  rw [upd_ne _ _ (by omega), upd_ne _ _ (by omega), upd_ne _ _ (by omega), upd_ne _ _ (by omega), upd_ne _ _ (by omega), upd_ne _ _ (by omega), upd_ne _ _ (by omega), upd_eq]
def heaF (C : Nat → Int32) (f : Nat → Bool) (P G S : Nat → Int32) : Nat → Nat → Int32
  | 0 => C
  | a + 1 => if f a then heaU (heaF C f P G S a) a (P a) (G a) (S a) else heaF C f P G S a
theorem heaF_ok (C : Nat → Int32) (f : Nat → Bool) (P G S : Nat → Int32) (n : Nat) (hn : n ≤ 7) : (∀ b, b < 7 → ∀ k, k < 10 → heaF C f P G S n (10 * b + k) = if b < n ∧ f b = true then heaN C b (P b) (G b) (S b) k else C (10 * b + k)) ∧ heaF C f P G S n 76 = C 76 + gI f P n ∧ ∀ j, 70 ≤ j → j ≠ 76 → heaF C f P G S n j = C j := by
  induction n with
  | zero =>
    refine ⟨fun b hb k hk => by rw [if_neg (by omega)]; rfl, ?_, fun j _ _ => rfl⟩
    show C 76 = C 76 + 0
    rw [Int32.add_zero]
  | succ n ih =>
    obtain ⟨h1, h2, h3⟩ := ih (by omega)
    cases hf : f n with
    | false =>
      have e : heaF C f P G S (n + 1) = heaF C f P G S n := by simp only [heaF, hf]; rfl
      have e2 : gI f P (n + 1) = gI f P n := by simp only [gI, hf]; rfl
      rw [e, e2]
      refine ⟨fun b hb k hk => ?_, h2, h3⟩
      rw [h1 b hb k hk]
      by_cases c : b < n ∧ f b = true
      · rw [if_pos c, if_pos ⟨by omega, c.2⟩]
      · rw [if_neg c, if_neg]
        rintro ⟨c1, c2⟩
        by_cases e : b = n
        · rw [e, hf] at c2; cases c2
        · exact c ⟨by omega, c2⟩
    | true =>
      have e : heaF C f P G S (n + 1) = heaU (heaF C f P G S n) n (P n) (G n) (S n) := by simp only [heaF, hf]; rfl
      have e2 : gI f P (n + 1) = gI f P n + P n := by simp only [gI, hf]; rfl
      rw [e, e2]
      refine ⟨fun b hb k hk => ?_, ?_, fun j hj hj6 => ?_⟩
      · by_cases eb : b = n
        · subst eb
          rw [heaU_own _ hb _ _ _ hk, if_pos ⟨by omega, hf⟩]
          have own : ∀ k, k < 10 → heaF C f P G S b (10 * b + k) = C (10 * b + k) := fun k hk => by rw [h1 b hb k hk, if_neg (by omega)]
          unfold heaN
          rw [own 2 (by decide), own 9 (by decide), own k hk]
        · rw [heaU_oth _ _ _ _ (fun k' _ => by omega) (by omega), h1 b hb k hk]
          by_cases c : b < n ∧ f b = true
          · rw [if_pos c, if_pos ⟨by omega, c.2⟩]
          · rw [if_neg c, if_neg (fun c' => c ⟨by omega, c'.2⟩)]
      · rw [heaU_76 _ (by omega), h2, Int32.add_assoc]
      · rw [heaU_oth _ _ _ _ (fun k' _ => by omega) hj6, h3 j hj hj6]
section
variable {B im : gm_I}
theorem vGd_rows (hok : cLawsOk B) (hq : ∀ q, 14 ≤ q ∧ q ≤ 18 → im q = B q) (v : Nat → Int32) : vGd im v = vGd B v := by
  unfold vGd; rw [cLaw_eq hok (hq 15 (by decide)) (hq 16 (by decide)) (hq 17 (by decide)) (hq 18 (by decide)) (fun _ _ => rfl)]
theorem vFn_rows (hok : cLawsOk B) (hq : ∀ q, 14 ≤ q ∧ q ≤ 18 → im q = B q) (v : Nat → Int32) (x : Int32) : vFn im v x = vFn B v x := by
  unfold vFn; rw [cLaw_eq hok (hq 15 (by decide)) (hq 16 (by decide)) (hq 17 (by decide)) (hq 18 (by decide)) (fun _ _ => rfl)]
theorem vMn_rows (hok : cLawsOk B) (hq : ∀ q, 14 ≤ q ∧ q ≤ 18 → im q = B q) (v : Nat → Int32) (j : Nat) (g : Int32) : vMn im v j g = vMn B v j g := by
  unfold vMn vMk; rw [hq 14 (by decide), cLaw_eq hok (hq 15 (by decide)) (hq 16 (by decide)) (hq 17 (by decide)) (hq 18 (by decide)) (fun _ _ => rfl)]
theorem vS_rows (hok : cLawsOk B) (hq : ∀ q, 14 ≤ q ∧ q ≤ 18 → im q = B q) (nj : Nat) (v : Nat → Int32) (J : Nat) : vS im nj v J = vS B nj v J := by
  unfold vS
  rw [vGd_rows hok hq]
  induction nj with
  | zero => rfl
  | succ n ih => simp only [vTn, ih, vMn_rows hok hq]
theorem ent_rows (hok : cLawsOk B) (hq : ∀ q, 14 ≤ q ∧ q ≤ 18 → im q = B q) (nj : Nat) (v : Nat → Int32) : ent im nj v = ent B nj v := by
  unfold ent; rw [vS_rows hok hq]
theorem vPy_rows (hok : cLawsOk B) (hq : ∀ q, 14 ≤ q ∧ q ≤ 18 → im q = B q) (nj : Nat) (v : Nat → Int32) (c : Int32) : vPy im nj v c = vPy B nj v c := by
  unfold vPy; rw [vS_rows hok hq, vFn_rows hok hq]
theorem cV_rows {a : Nat} (h11 : im 11 = B 11) (h12 : im 12 = B 12) (h : ∀ k, k < 10 → im 22 (10 * a + k) = B 22 (10 * a + k)) (h75 : im 22 75 = B 22 75) : cV im a = cV B a := by
  unfold cV
  rw [h11, h12, h 0 (by decide), h 1 (by decide), h 4 (by decide), h 5 (by decide), h 8 (by decide), h75]
theorem sSl_rows (h12 : im 12 = B 12) (s d : Int32) (a : Nat) : sSl im s d a = sSl B s d a := by unfold sSl; rw [h12]
end
/-- the voice of one who speaks in the session -/
def heV (B : gm_I) (a : Nat) : Nat → Int32 := upd (cV B a) 6 (b32 (sSl B (B 11 1) (B 22 75) a))
