theorem gI_ext {f f' : Nat → Bool} {P P' : Nat → Int32} {n : Nat} (h : ∀ a, a < n → f a = f' a ∧ (f' a = true → P a = P' a)) : gI f P n = gI f' P' n := by
  induction n with
  | zero => rfl
  | succ n ih =>
    have h1 := ih (fun a ha => h a (by omega))
    obtain ⟨h2, h3⟩ := h n (by omega)
    simp only [gI, h1, h2]
    cases hf : f' n with
    | false => rfl
    | true => rw [h3 hf]
theorem sitF_ext {R : Nat → Int32} {f f' : Nat → Bool} {P P' G G' S S' : Nat → Int32} {n : Nat} (h : ∀ a, a < n → f a = f' a ∧ (f' a = true → P a = P' a ∧ G a = G' a ∧ S a = S' a)) : sitF R f P G S n = sitF R f' P' G' S' n := by
  induction n with
  | zero => rfl
  | succ n ih =>
    have h1 := ih (fun a ha => h a (by omega))
    obtain ⟨h2, h3⟩ := h n (by omega)
    simp only [sitF, h1, h2]
    cases hf : f' n with
    | false => rfl
    | true => obtain ⟨x, y, z⟩ := h3 hf; rw [x, y, z]
theorem sat_rel {c r : Nat → Int32} {nm nk ns m : Nat} (hm7 : nm ≤ 7) (hk5 : nk ≤ 5) (hr : rRel c r nm nk ns) (hm : m < nk) {f : Nat → Bool} (hf : ∀ a, a < nm → f a = decide (r (21 + a) = nI m)) {P G S : Nat → Int32} (hG : ∀ a, a < nm → f a = true → ∃ g, g ≤ 99 ∧ G a = nI g) {to : Int32} (hto : to = -2 ∨ ∃ s, s < 3 ∧ to = nI s) : rRel (upd (upd (heaF c f P G S nm) (70 + m) to) 75 (c 75 + 1)) (upd (upd (sitF r f P G S nm) (70 + m) to) 75 (r 75 + 1)) nm nk ns := by
  obtain ⟨c1, c2, c3⟩ := heaF_ok c f P G S nm hm7
  obtain ⟨r1, r2, r3⟩ := sitF_ok r f P G S nm hm7
  refine rRel_mk (fun a ha => ?_) (fun q hq => ?_) ?_ ?_
  · have hc : ∀ k, k < 10 → upd (upd (heaF c f P G S nm) (70 + m) to) 75 (c 75 + 1) (10 * a + k) = if a < nm ∧ f a = true then heaN c a (P a) (G a) (S a) k else c (10 * a + k) := fun k hk => by
      rw [upd_ne _ _ (by omega), upd_ne _ _ (by omega), c1 a (by omega) k hk]
    have hrr : ∀ k, k < 10 → upd (upd (sitF r f P G S nm) (70 + m) to) 75 (r 75 + 1) (7 * k + a) = if a < nm ∧ f a = true then sitN r a (P a) (G a) (S a) k else r (7 * k + a) := fun k hk => by
      rw [upd_ne _ _ (by omega), upd_ne _ _ (by omega), r1 a (by omega) k hk]
    have h70 : ∀ q, q < nk → q ≠ m → upd (upd (sitF r f P G S nm) (70 + m) to) 75 (r 75 + 1) (70 + q) = r (70 + q) := fun q hq hne => by
      rw [upd_ne _ _ (by omega), upd_ne _ _ (by omega), r3 _ (by omega) (by omega)]
    generalize upd (upd (heaF c f P G S nm) (70 + m) to) 75 (c 75 + 1) = c' at hc ⊢
    generalize upd (upd (sitF r f P G S nm) (70 + m) to) 75 (r 75 + 1) = r' at hrr h70 ⊢
    cases hfa : f a with
    | false =>
      have hng : ¬ (a < nm ∧ f a = true) := by rw [hfa]; simp
      refine rMan_eq (fun k hk => by rw [hc k hk, if_neg hng]) (fun k hk => by rw [hrr k hk, if_neg hng]) (fun q hq h1 h2 => ?_) (rRel_man hr ha)
      have hne : q ≠ m := by
        rintro rfl
        have := hf a ha
        rw [hfa, h2] at this
        simp at this
      rw [h70 q hq hne]; exact h1
    | true =>
      have hps : a < nm ∧ f a = true := ⟨ha, hfa⟩
      have C : ∀ k, k < 10 → c' (10 * a + k) = heaN c a (P a) (G a) (S a) k := fun k hk => by rw [hc k hk, if_pos hps]
      have R : ∀ k, k < 10 → r' (7 * k + a) = sitN r a (P a) (G a) (S a) k := fun k hk => by rw [hrr k hk, if_pos hps]
      obtain ⟨h0, h1, h2, h3, h4, h5, h6, h7, h8, h9⟩ := rRel_man hr ha
      have R0 : r' a = r a := by have := R 0 (by decide); rw [Nat.mul_zero, Nat.zero_add] at this; rw [this]; show r (7 * 0 + a) = r a; rw [Nat.mul_zero, Nat.zero_add]
      have R1 : r' (7 + a) = r (7 + a) := R 1 (by decide)
      have R2 : r' (14 + a) = r (14 + a) - P a := R 2 (by decide)
      have R3 : r' (21 + a) = -2 := R 3 (by decide)
      have R5 : r' (35 + a) = 0 := R 5 (by decide)
      have R6 : r' (42 + a) = G a := R 6 (by decide)
      have R7 : r' (49 + a) = -2 := R 7 (by decide)
      have R9 : r' (63 + a) = r (63 + a) + S a := R 9 (by decide)
      have C0 : c' (10 * a + 0) = c (10 * a + 0) := C 0 (by decide)
      have C1 : c' (10 * a + 1) = c (10 * a + 1) := C 1 (by decide)
      have C2 : c' (10 * a + 2) = c (10 * a + 2) - P a := C 2 (by decide)
      have C3 : c' (10 * a + 3) = -2 := C 3 (by decide)
      have C4 : c' (10 * a + 4) = -2 := C 4 (by decide)
      have C5 : c' (10 * a + 5) = 0 := C 5 (by decide)
      have C6 : c' (10 * a + 6) = G a := C 6 (by decide)
      have C7 : c' (10 * a + 7) = -2 := C 7 (by decide)
      have C8 : c' (10 * a + 8) = -1 := C 8 (by decide)
      have C9 : c' (10 * a + 9) = c (10 * a + 9) + S a := C 9 (by decide)
      refine ⟨?_, ?_, ?_, ⟨C3.trans R3.symm, Or.inl R3⟩, Or.inl ⟨R3, C4⟩, ⟨C5.trans R5.symm, 0, by decide, R5⟩, ⟨C6.trans R6.symm, Or.inr ?_⟩, C7.trans R7.symm, Or.inl ⟨R7, C8⟩, ?_⟩
      · rw [C0, R0]; exact h0
      · rw [C1, R1]; exact h1
      · rw [C2, R2, h2]
      · rw [R6]; exact hG a ha hfa
      · rw [C9, R9, h9]
  · rw [upd_ne _ _ (by omega), upd_ne _ _ (show 70 + q ≠ 75 by omega)]
    by_cases e : q = m
    · subst e
      rw [upd_eq, upd_eq]; exact ⟨rfl, hto⟩
    · rw [upd_ne _ _ (by omega), upd_ne _ _ (by omega), c3 _ (by omega) (by omega), r3 _ (by omega) (by omega)]
      exact rR_fell hr hq
  · rw [upd_eq, upd_eq, rR_day hr]
  · rw [upd_ne _ _ (by omega), upd_ne _ _ (by omega), upd_ne _ _ (by omega), upd_ne _ _ (by omega), c2, r2, rR_paid hr]
section
variable {B : gm_I} {l nm nk nj ns : Nat}
theorem rV_cV (hR : iRoll B l nm nk nj ns) {c r : Nat → Int32} (hr : rRel c r nm nk ns) {a : Nat} (ha : a < nm) (hsp : ¬ r (21 + a) = -2) (sl : Int32) : vEq (rV B l r a sl) (upd (cV (fun q => if q = 22 then c else B q) a) 6 sl) := by
  have hR' : iRoll (fun q => if q = 22 then c else B q) l nm nk nj ns := iRoll_eq (fun q hq => by show (if q = 22 then c else B q) = B q; rw [if_neg (by omega)]) rfl hR
  have ho : Off (fun q => if q = 22 then c else B q) (fun q => if q = 22 then c else if q = 117 then r else B q) := by
    refine ⟨fun q hq => ?_, fun k hk => rfl⟩
    show (if q = 22 then c else if q = 117 then r else B q) = if q = 22 then c else B q
    by_cases e : q = 117
    · subst e; exact absurd hq (by decide)
    · rw [if_neg e]
  have := mV_cV1 hR' ho (r := r) hr (fun j _ => rfl) ha hsp sl
  exact this
theorem vPy_eq {v w : Nat → Int32} (h : vEq v w) (c : Int32) : vPy B nj v c = vPy B nj w c := by
  unfold vPy; rw [vS_eq h, vFn_eq h]
theorem vSu_rows {im : gm_I} (hok : cLawsOk B) (hq : ∀ q, 14 ≤ q ∧ q ≤ 18 → im q = B q) (f : Nat → Bool) (v : Nat → Nat → Int32) : vFall im nj f nm v = vFall B nj f nm v := by
  unfold vFall
  have : vSu im nj f nm v 255 = vSu B nj f nm v 255 := by
    funext s; unfold vSu
    exact gN_ext (fun _ _ => rfl) (fun a _ _ => ⟨rfl, vS_rows hok hq nj (v a) 255⟩) s
  rw [this]
theorem vGd_rng {c r : Nat → Int32} (hr : rRel c r nm nk ns) {a : Nat} (ha : a < nm) (hc : ∀ k, k < 10 → B 22 (10 * a + k) = c (10 * a + k)) (sl : Int32) : ∃ g, g ≤ 99 ∧ vGd B (upd (cV B a) 6 sl) = nI g := by
  have h10 : upd (cV B a) 6 sl 10 = c (10 * a + 8) := by rw [← hc 8 (by decide)]; simp [upd, cV]
  unfold vGd
  rw [h10]
  rcases rR_old hr ha with ⟨-, e⟩ | ⟨-, e, g, hg, e2⟩
  · rw [e, if_pos rfl]
    obtain ⟨n, h1, h2, h3⟩ := sClamp_nat 0 99 (by decide) (by decide) (cLaw B 0 (sV (upd (cV B a) 6 sl 3) (upd (cV B a) 6 sl 5) (upd (cV B a) 6 sl 6) (upd (cV B a) 6 sl 7) (upd (cV B a) 6 sl 8) 0 0 (upd (cV B a) 6 sl 2) (upd (cV B a) 6 sl 9)))
    exact ⟨n, h2, h3⟩
  · rw [e, e2, if_neg]
    · exact ⟨g, hg, rfl⟩
    · intro e3
      have h1 : (nI g).toInt = g := nI_toInt (by omega)
      rw [e3] at h1
      have h2 : (-1 : Int32).toInt = -1 := by decide
      omega
end
