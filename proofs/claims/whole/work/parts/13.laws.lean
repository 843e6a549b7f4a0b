/-! the class: a law's value -/
/-- memory with another row of numbers (scratch) -/
def cNu (im : gm_I) (nu : Nat → Int32) : gm_I := fun q j => if q = 19 then nu j else im q j
theorem cNu_15 (im : gm_I) (nu : Nat → Int32) (j : Nat) : cNu im nu 15 j = im 15 j := rfl
theorem cNu_16 (im : gm_I) (nu : Nat → Int32) (j : Nat) : cNu im nu 16 j = im 16 j := rfl
theorem cNu_17 (im : gm_I) (nu : Nat → Int32) (j : Nat) : cNu im nu 17 j = im 17 j := rfl
theorem cNu_18 (im : gm_I) (nu : Nat → Int32) (j : Nat) : cNu im nu 18 j = im 18 j := rfl
theorem cNu_19 (im : gm_I) (nu : Nat → Int32) (j : Nat) : cNu im nu 19 j = nu j := rfl
theorem cNu_70 (im : gm_I) (nu : Nat → Int32) (j : Nat) : cNu im nu 70 j = im 70 j := rfl
theorem cNu_ne (im : gm_I) (nu : Nat → Int32) {q : Nat} (h : q ≠ 19) : cNu im nu q = im q := by funext j; simp [cNu, h]
theorem cNu_up (im : gm_I) (nu : Nat → Int32) (t : Nat) (v : Int32) : gm_up (cNu im nu) 19 t v = cNu im (upd nu t v) := by
  funext q j
  unfold gm_up cNu upd
  by_cases h : q = 19
  · subst h; by_cases h2 : j = t <;> simp [h2]
  · simp [h]
theorem cNu_self (im : gm_I) : cNu im (im 19) = im := by
  funext q j
  unfold cNu
  by_cases h : q = 19
  · subst h; simp
  · simp [h]
theorem cNu_cNu (im : gm_I) (nu mu : Nat → Int32) : cNu (cNu im nu) mu = cNu im mu := by
  funext q j
  unfold cNu
  by_cases h : q = 19 <;> simp [h]
/-- steps over a stack of numbers: the answer, and the numbers left -/
def cEv (stp arg : Nat → Int32) (sz : Nat) (va : Nat → Int32) : Nat → Nat → Nat → (Nat → Int32) → Int32 × (Nat → Int32)
  | 0, _, _, nu => (0, nu)
  | f + 1, pos, top, nu =>
    if sz ≤ pos then (0, nu)
    else if stp pos = 0 then cEv stp arg sz va f (pos + 1) (top + 1) (upd nu top (arg pos))
    else if stp pos = 1 then cEv stp arg sz va f (pos + 1) (top + 1) (upd nu top (va (arg pos).toNatClampNeg))
    else if stp pos = 2 then (if 0 < top then nu (top - 1) else 0, nu)
    else if top < 2 then (0, nu)
    else if stp pos = 43 then cEv stp arg sz va f (pos + 1) (top - 1) (upd nu (top - 2) (nu (top - 2) + nu (top - 1)))
    else if stp pos = 45 then cEv stp arg sz va f (pos + 1) (top - 1) (upd nu (top - 2) (nu (top - 2) - nu (top - 1)))
    else if stp pos = 42 then cEv stp arg sz va f (pos + 1) (top - 1) (upd nu (top - 2) (nu (top - 2) * nu (top - 1)))
    else if stp pos = 47 then (if nu (top - 1) = 0 then (0, nu) else cEv stp arg sz va f (pos + 1) (top - 1) (upd nu (top - 2) (nu (top - 2) / nu (top - 1))))
    else cEv stp arg sz va f ((if nu (top - 2) < nu (top - 1) then pos else if pos < (arg pos).toNatClampNeg - 1 then (arg pos).toNatClampNeg - 1 else pos) + 1) (top - 2) nu
/-- the laws' rows are in order -/
def cLawOk (im : gm_I) (sz : Nat) : Prop := im 15 5 = nI sz ∧ sz ≤ 406 ∧ ∀ pos, pos < sz → ∃ i, i ≤ 10000 ∧ im 17 pos = nI i ∧ (im 16 pos = 1 → i < 9)
theorem nI_m1 {n : Nat} (h : 0 < n) : nI n - 1 = nI (n - 1) := by
  obtain ⟨k, rfl⟩ : ∃ k, n = k + 1 := ⟨n - 1, by omega⟩
  rw [nI_pred]; rfl
theorem nI_m2 {n : Nat} (h : 2 ≤ n) : nI n - 2 = nI (n - 2) := by
  rw [show (2 : Int32) = nI 2 from rfl, pk_sub h]
theorem nI_a1 (n : Nat) : nI n + 1 = nI (n + 1) := nI_1 n
theorem nI_s1 {n : Nat} (h : 0 < n) : nI n + -1 = nI (n - 1) := sb_m1 h
theorem sw_out {s : Int32} (h42 : ¬ s = 42) (h43 : ¬ s = 43) (h45 : ¬ s = 45) (h47 : ¬ s = 47) : s = 44 ∨ s = 46 ∨ (s.toInt < 42 ∨ 47 < s.toInt) := by
  by_cases h : s.toInt < 42 ∨ 47 < s.toInt
  · exact Or.inr (Or.inr h)
  · have h1 : ∀ c : Int32, s.toInt = c.toInt → s = c := fun c hc => Int32.toInt_inj.mp hc
    have e42 : (42 : Int32).toInt = 42 := by decide
    have e43 : (43 : Int32).toInt = 43 := by decide
    have e44 : (44 : Int32).toInt = 44 := by decide
    have e45 : (45 : Int32).toInt = 45 := by decide
    have e46 : (46 : Int32).toInt = 46 := by decide
    have e47 : (47 : Int32).toInt = 47 := by decide
    have n42 : s.toInt ≠ 42 := fun q => h42 (h1 42 (by rw [q, e42]))
    have n43 : s.toInt ≠ 43 := fun q => h43 (h1 43 (by rw [q, e43]))
    have n45 : s.toInt ≠ 45 := fun q => h45 (h1 45 (by rw [q, e45]))
    have n47 : s.toInt ≠ 47 := fun q => h47 (h1 47 (by rw [q, e47]))
    by_cases q44 : s.toInt = 44
    · exact Or.inl (h1 44 (by rw [q44, e44]))
    · exact Or.inr (Or.inl (h1 46 (by rw [e46]; omega)))
theorem C_val_loop {im : gm_I} {sz : Nat} (hok : cLawOk im sz) (j : Int32) (lm : gm_L) : ∀ (f pos top : Nat) (nu : Nat → Int32) (x5 x6 x7 : Value), sz ≤ pos + f → top ≤ pos → pos ≤ 10001 → x5.category = 1 → x6.category = 1 → x7.category = 1 →
    gm_den 43 10 [.ref 15, .int j, .ref 70, .int (nI top), .int (nI pos), x5, x6, x7] [] 128 gm_RF (cNu im nu) lm = some (some (.int (cEv (im 16) (im 17) sz (im 70) f pos top nu).1), 128, gm_RF, cNu im (cEv (im 16) (im 17) sz (im 70) f pos top nu).2, lm) := by
  obtain ⟨hsz, h406, harg⟩ := hok
  intro f
  induction f with
  | zero =>
    intro pos top nu x5 x6 x7 h1 h2 h3 c5 c6 c7
    have hle : nI sz ≤ nI pos := nI_le (by omega) (by omega)
    rw [LX2_value_10]
    simp only [QX2_value, cNu_15, hsz, hle, if_true, cEv]
  | succ f ih =>
    intro pos top nu x5 x6 x7 h1 h2 h3 c5 c6 c7
    rw [LX2_value_10]
    by_cases hp : sz ≤ pos
    · have hle : nI sz ≤ nI pos := nI_le hp (by omega)
      simp only [QX2_value, cNu_15, hsz, hle, if_true, cEv, hp]
    · have hp2 : pos < sz := by omega
      have hle : ¬ nI sz ≤ nI pos := nI_ge hp2 (by omega)
      have hin : gm_in (nI pos) 406 = true := gm_in_nI (by omega) (by decide)
      have hcl : (nI pos).toNatClampNeg = pos := nI_clamp (by omega)
      have htin : gm_in (nI top) 406 = true := gm_in_nI (by omega) (by decide)
      have htcl : (nI top).toNatClampNeg = top := nI_clamp (by omega)
      have hto : ¬ (406 : Int32) ≤ nI top := nI_ge (b := 406) (by omega) (by decide)
      obtain ⟨i, hi, hai, hlook⟩ := harg pos hp2
      have hicl : (nI i).toNatClampNeg = i := nI_clamp (by omega)
      by_cases s0 : im 16 pos = 0
      · simp only [QX2_value, cNu_15, cNu_16, cNu_17, hsz, hle, hto, if_true, if_false, hin, hcl, s0, c5, c6, c7, gm_cat_i, htin, htcl, cNu_up, nI_a1, not_true_eq_false, not_false_eq_true, show ¬ (0 : Int32) = 1 by decide]
        rw [ih (pos + 1) (top + 1) _ _ _ _ (by omega) (by omega) (by omega) rfl rfl rfl]
        simp only [cEv, hp, if_false, s0, if_true]
      · by_cases s1 : im 16 pos = 1
        · have h9 : gm_in (nI i) 9 = true := gm_in_nI (hlook s1) (by decide)
          have hi9 : ¬ Int32.ofNat 9 ≤ nI i := nI_ge (b := 9) (hlook s1) (by decide)
          have hi0 : ¬ nI i < 0 := nI_pos (by omega)
          simp only [QX2_value, cNu_15, cNu_16, cNu_17, cNu_70, hsz, hle, hto, if_true, if_false, hin, hcl, s1, c5, c6, c7, gm_cat_i, htin, htcl, cNu_up, nI_a1, not_true_eq_false, hai, h9, hi9, hi0, hicl, show ¬ (1 : Int32) = 0 by decide, not_false_eq_true]
          rw [ih (pos + 1) (top + 1) _ _ _ _ (by omega) (by omega) (by omega) rfl rfl rfl]
          simp only [cEv, hp, if_false, s1, if_true, hai, hicl, show ¬ (1 : Int32) = 0 by decide]
        · by_cases s2 : im 16 pos = 2
          · by_cases ht : 0 < top
            · have hl : ¬ nI top ≤ 0 := nI_nle ht (by omega)
              have hm1 := nI_m1 ht
              have hi1 : gm_in (nI (top - 1)) 406 = true := gm_in_nI (by omega) (by decide)
              have hc1 : (nI (top - 1)).toNatClampNeg = top - 1 := nI_clamp (by omega)
              simp only [QX2_value, cNu_15, cNu_16, cNu_19, hsz, hle, hto, if_true, if_false, hin, hcl, s2, c5, c6, c7, gm_cat_i, show ¬ (2 : Int32) = 0 by decide, show ¬ (2 : Int32) = 1 by decide, not_false_eq_true, not_true_eq_false, hl, hm1, hi1, hc1, cEv, hp, ht]
            · have ht0 : top = 0 := by omega
              subst ht0
              simp only [QX2_value, cNu_15, cNu_16, cNu_19, hsz, hle, hto, if_true, if_false, hin, hcl, s2, c5, c6, c7, gm_cat_i, show ¬ (2 : Int32) = 0 by decide, show ¬ (2 : Int32) = 1 by decide, not_false_eq_true, not_true_eq_false, show nI 0 ≤ 0 from by decide, cEv, hp, ht]
          · by_cases ht : top < 2
            · have hl : ¬ (2 : Int32) ≤ nI top := nI_ge (b := 2) ht (by decide)
              simp only [QX2_value, cNu_15, cNu_16, hsz, hle, hto, if_true, if_false, hin, hcl, s0, s1, s2, c5, c6, c7, gm_cat_i, not_false_eq_true, hl, cEv, hp, ht]
            · have hl : (2 : Int32) ≤ nI top := nI_le (a := 2) (by omega) (by omega)
              have hm1 := nI_m1 (n := top) (by omega)
              have hm2 := nI_m2 (n := top) (by omega)
              have hs1 := nI_s1 (n := top) (by omega)
              have hs2 := nI_s1 (n := top - 1) (by omega)
              have hm3 := nI_m1 (n := top - 1) (by omega)
              have e2 : top - 1 - 1 = top - 2 := by omega
              have hi1 : gm_in (nI (top - 1)) 406 = true := gm_in_nI (by omega) (by decide)
              have hc1 : (nI (top - 1)).toNatClampNeg = top - 1 := nI_clamp (by omega)
              have hi2 : gm_in (nI (top - 2)) 406 = true := gm_in_nI (by omega) (by decide)
              have hc2 : (nI (top - 2)).toNatClampNeg = top - 2 := nI_clamp (by omega)
              by_cases s43 : im 16 pos = 43
              · simp only [QX2_value, cNu_15, cNu_16, cNu_19, hsz, hle, hto, if_true, if_false, hin, hcl, s43, c5, c6, c7, gm_cat_i, show ¬ (43 : Int32) = 0 by decide, show ¬ (43 : Int32) = 1 by decide, show ¬ (43 : Int32) = 2 by decide, not_false_eq_true, hl, hm1, hm2, hm3, e2, hs1, hi1, hc1, hi2, hc2, cNu_up, nI_a1]
                rw [ih (pos + 1) (top - 1) _ _ _ _ (by omega) (by omega) (by omega) rfl rfl rfl]
                simp only [cEv, hp, if_false, s43, if_true, ht, show ¬ (43 : Int32) = 0 by decide, show ¬ (43 : Int32) = 1 by decide, show ¬ (43 : Int32) = 2 by decide]
              · by_cases s45 : im 16 pos = 45
                · simp only [QX2_value, cNu_15, cNu_16, cNu_19, hsz, hle, hto, if_true, if_false, hin, hcl, s45, c5, c6, c7, gm_cat_i, show ¬ (45 : Int32) = 0 by decide, show ¬ (45 : Int32) = 1 by decide, show ¬ (45 : Int32) = 2 by decide, not_false_eq_true, hl, hm1, hm2, hm3, e2, hs1, hi1, hc1, hi2, hc2, cNu_up, nI_a1]
                  rw [ih (pos + 1) (top - 1) _ _ _ _ (by omega) (by omega) (by omega) rfl rfl rfl]
                  simp only [cEv, hp, if_false, s45, if_true, ht, show ¬ (45 : Int32) = 0 by decide, show ¬ (45 : Int32) = 1 by decide, show ¬ (45 : Int32) = 2 by decide, show ¬ (45 : Int32) = 43 by decide]
                · by_cases s42 : im 16 pos = 42
                  · simp only [QX2_value, cNu_15, cNu_16, cNu_19, hsz, hle, hto, if_true, if_false, hin, hcl, s42, c5, c6, c7, gm_cat_i, show ¬ (42 : Int32) = 0 by decide, show ¬ (42 : Int32) = 1 by decide, show ¬ (42 : Int32) = 2 by decide, not_false_eq_true, hl, hm1, hm2, hm3, e2, hs1, hi1, hc1, hi2, hc2, cNu_up, nI_a1]
                    rw [ih (pos + 1) (top - 1) _ _ _ _ (by omega) (by omega) (by omega) rfl rfl rfl]
                    simp only [cEv, hp, if_false, s42, if_true, ht, show ¬ (42 : Int32) = 0 by decide, show ¬ (42 : Int32) = 1 by decide, show ¬ (42 : Int32) = 2 by decide, show ¬ (42 : Int32) = 43 by decide, show ¬ (42 : Int32) = 45 by decide]
                  · by_cases s47 : im 16 pos = 47
                    · by_cases hz : nu (top - 1) = 0
                      · simp only [QX2_value, cNu_15, cNu_16, cNu_19, hsz, hle, hto, if_true, if_false, hin, hcl, s47, c5, c6, c7, gm_cat_i, show ¬ (47 : Int32) = 0 by decide, show ¬ (47 : Int32) = 1 by decide, show ¬ (47 : Int32) = 2 by decide, not_false_eq_true, not_true_eq_false, hl, hm1, hm2, hm3, e2, hs1, hi1, hc1, hi2, hc2, hz, cEv, hp, ht, show ¬ (47 : Int32) = 43 by decide, show ¬ (47 : Int32) = 45 by decide, show ¬ (47 : Int32) = 42 by decide]
                      · simp only [QX2_value, cNu_15, cNu_16, cNu_19, hsz, hle, hto, if_true, if_false, hin, hcl, s47, c5, c6, c7, gm_cat_i, show ¬ (47 : Int32) = 0 by decide, show ¬ (47 : Int32) = 1 by decide, show ¬ (47 : Int32) = 2 by decide, not_false_eq_true, hl, hm1, hm2, hm3, e2, hs1, hi1, hc1, hi2, hc2, hz, cNu_up, nI_a1]
                        rw [ih (pos + 1) (top - 1) _ _ _ _ (by omega) (by omega) (by omega) rfl rfl rfl]
                        simp only [cEv, hp, if_false, s47, if_true, ht, hz, show ¬ (47 : Int32) = 0 by decide, show ¬ (47 : Int32) = 1 by decide, show ¬ (47 : Int32) = 2 by decide, show ¬ (47 : Int32) = 43 by decide, show ¬ (47 : Int32) = 45 by decide, show ¬ (47 : Int32) = 42 by decide]
                    · have hjump : (if nI pos < nI i - 1 then nI i - 1 else nI pos) = nI (if pos < i - 1 then i - 1 else pos) := by
                        by_cases hi0 : i = 0
                        · subst hi0
                          have hn : ¬ nI pos < nI 0 - 1 := by
                            intro q
                            have h8 : nI 0 - 1 < 0 := by decide
                            exact absurd (Int32.lt_trans q h8) (nI_pos (by omega))
                          rw [if_neg hn, if_neg (by omega)]
                        · rw [nI_m1 (by omega)]
                          by_cases hq : pos < i - 1
                          · rw [if_pos (nI_lt hq (by omega)), if_pos hq]
                          · rw [if_neg (nI_nlt (by omega) (by omega)), if_neg hq]
                      have e9 : cEv (im 16) (im 17) sz (im 70) (f + 1) pos top nu = cEv (im 16) (im 17) sz (im 70) f ((if nu (top - 2) < nu (top - 1) then pos else if pos < i - 1 then i - 1 else pos) + 1) (top - 2) nu := by
                        rw [cEv]
                        simp only [hp, s0, s1, s2, ht, s43, s45, s42, s47, if_false, hai, hicl]
                      have step : gm_den 43 271 [.ref 15, .int j, .ref 70, .int (nI (top - 1)), .int (nI pos), .int (im 16 pos), .int (nu (top - 1)), .int (nu (top - 2))] [] 128 gm_RF (cNu im nu) lm = some (some (.int (cEv (im 16) (im 17) sz (im 70) (f + 1) pos top nu).1), 128, gm_RF, cNu im (cEv (im 16) (im 17) sz (im 70) (f + 1) pos top nu).2, lm) := by
                        rw [e9]
                        by_cases hlt : nu (top - 2) < nu (top - 1)
                        · have hge : ¬ nu (top - 1) ≤ nu (top - 2) := Int32.not_le.mpr hlt
                          simp only [QX2_value, gm_cat_i, hge, hlt, if_true, if_false, hs2, e2, nI_a1]
                          exact ih (pos + 1) (top - 2) nu _ _ _ (by omega) (by omega) (by omega) rfl rfl rfl
                        · have hge : nu (top - 1) ≤ nu (top - 2) := Int32.not_lt.mp hlt
                          simp only [QX2_value, gm_cat_i, hge, hlt, if_true, if_false, hs2, e2, cNu_17, hin, hcl, hai, hjump, nI_a1]
                          exact ih ((if pos < i - 1 then i - 1 else pos) + 1) (top - 2) nu _ _ _ (by split <;> omega) (by split <;> omega) (by split <;> omega) rfl rfl rfl
                      have pre : gm_den 43 161 [.ref 15, .int j, .ref 70, .int (nI (top - 1)), .int (nI pos), .int (im 16 pos), .int (nu (top - 1)), .int (nu (top - 2))] [.int (im 16 pos)] 128 gm_RF (cNu im nu) lm = gm_den 43 271 [.ref 15, .int j, .ref 70, .int (nI (top - 1)), .int (nI pos), .int (im 16 pos), .int (nu (top - 1)), .int (nu (top - 2))] [] 128 gm_RF (cNu im nu) lm := by
                        rcases sw_out s42 s43 s45 s47 with h | h | h
                        · rw [h]; exact ge_swc k_X2_value dX2_value_161 (by decide) rfl rfl
                        · rw [h]; exact ge_swc k_X2_value dX2_value_161 (by decide) rfl rfl
                        · exact ge_swd k_X2_value dX2_value_161 h rfl
                      rw [← step, ← pre]
                      simp only [QX2_value, cNu_15, cNu_16, cNu_19, hsz, hle, hto, if_true, if_false, hin, hcl, s0, s1, s2, c5, c6, c7, gm_cat_i, not_false_eq_true, hl, hm1, hm2, hs1, hi1, hc1, hi2, hc2]
/-- only what was put on the stack is looked at -/
theorem cEv_stack (stp arg : Nat → Int32) (sz : Nat) (va : Nat → Int32) : ∀ (f pos top : Nat) (nu mu : Nat → Int32), (∀ j, j < top → nu j = mu j) → (cEv stp arg sz va f pos top nu).1 = (cEv stp arg sz va f pos top mu).1 := by
  intro f
  induction f with
  | zero => intro pos top nu mu _; rfl
  | succ f ih =>
    intro pos top nu mu h
    have hup : ∀ (t : Nat) (v w : Int32), v = w → (∀ j, j < t → nu j = mu j) → ∀ j, j < t + 1 → upd nu t v j = upd mu t w j := by
      intro t v w hv ht j hj
      unfold upd
      by_cases hjt : j = t
      · simp [hjt, hv]
      · simp [hjt]; exact ht j (by omega)
    have hk : ∀ t, 2 ≤ top → t = top - 2 → ∀ (v w : Int32), v = w → ∀ j, j < top - 1 → upd nu t v j = upd mu t w j := by
      intro t h2 ht v w hv j hj
      exact hup t v w hv (fun j hj => h j (by omega)) j (by omega)
    simp only [cEv]
    by_cases c1 : sz ≤ pos
    · simp only [c1, if_true]
    · by_cases c2 : stp pos = 0
      · simp only [c1, c2, if_true, if_false]
        exact ih _ _ _ _ (hup top _ _ rfl h)
      · by_cases c3 : stp pos = 1
        · simp only [c1, c3, if_true, if_false, show ¬ (1 : Int32) = 0 by decide]
          exact ih _ _ _ _ (hup top _ _ rfl h)
        · by_cases c4 : stp pos = 2
          · simp only [c1, c4, if_true, if_false, show ¬ (2 : Int32) = 0 by decide, show ¬ (2 : Int32) = 1 by decide]
            by_cases ht : 0 < top
            · simp only [ht, if_true]; exact h _ (by omega)
            · simp only [ht, if_false]
          · by_cases c5 : top < 2
            · simp only [c1, c2, c3, c4, c5, if_true, if_false]
            · have e1 : nu (top - 1) = mu (top - 1) := h _ (by omega)
              have e2 : nu (top - 2) = mu (top - 2) := h _ (by omega)
              simp only [c1, c2, c3, c4, c5, if_false, e1, e2]
              by_cases s43 : stp pos = 43
              · simp only [s43, if_true]; exact ih _ _ _ _ (hk _ (by omega) rfl _ _ rfl)
              · by_cases s45 : stp pos = 45
                · simp only [s45, if_true, if_false, show ¬ (45 : Int32) = 43 by decide]; exact ih _ _ _ _ (hk _ (by omega) rfl _ _ rfl)
                · by_cases s42 : stp pos = 42
                  · simp only [s42, if_true, if_false, show ¬ (42 : Int32) = 43 by decide, show ¬ (42 : Int32) = 45 by decide]; exact ih _ _ _ _ (hk _ (by omega) rfl _ _ rfl)
                  · by_cases s47 : stp pos = 47
                    · simp only [s47, if_true, if_false, show ¬ (47 : Int32) = 43 by decide, show ¬ (47 : Int32) = 45 by decide, show ¬ (47 : Int32) = 42 by decide]
                      by_cases hz : mu (top - 1) = 0
                      · simp only [hz, if_true]
                      · simp only [hz, if_false]; exact ih _ _ _ _ (hk _ (by omega) rfl _ _ rfl)
                    · simp only [s43, s45, s42, s47, if_false]
                      exact ih _ _ _ _ (fun j hj => h j (by omega))
/-- a law of the class: its value by the variables -/
def cLaw (im : gm_I) (j : Nat) (va : Nat → Int32) : Int32 := (cEv (im 16) (im 17) (im 15 5).toNatClampNeg va 407 (im 18 j).toNatClampNeg 0 (fun _ => 0)).1
/-- the laws are in order -/
def cLawsOk (im : gm_I) : Prop := ∃ sz, cLawOk im sz ∧ ∀ j, j < 3 → ∃ p, p ≤ 406 ∧ im 18 j = nI p
/-- the memory behind it -/
noncomputable def cVIm (im : gm_I) (j : Nat) : gm_I := cNu im (cEv (im 16) (im 17) (im 15 5).toNatClampNeg (im 70) 407 (im 18 j).toNatClampNeg 0 (im 19)).2
theorem cVIm_ne (im : gm_I) (j : Nat) {q : Nat} (h : q ≠ 19) : cVIm im j q = im q := cNu_ne _ _ h
theorem C_valueN (j : Nat) (im : gm_I) (lm : gm_L) (hj : j < 3) (hok : cLawsOk im) : gm_den 43 0 [.ref 15, .int (nI j), .ref 70, .null, .null, .null, .null, .null] [] 128 gm_RF im lm = some (some (.int (cLaw im j (im 70))), 128, gm_RF, cVIm im j, lm) := by
  obtain ⟨sz, hok, hst⟩ := hok
  obtain ⟨p, hp, hp2⟩ := hst j hj
  have hin : gm_in (nI j) 3 = true := gm_in_nI hj (by decide)
  have hcl : (nI j).toNatClampNeg = j := nI_clamp (by omega)
  have hpc : (nI p).toNatClampNeg = p := nI_clamp (by omega)
  have hszc : (nI sz).toNatClampNeg = sz := nI_clamp (by have := hok.2.1; omega)
  have h := C_val_loop hok (nI j) lm 407 p 0 (im 19) .null .null .null (by have := hok.2.1; omega) (by omega) (by omega) rfl rfl rfl
  rw [cNu_self] at h
  simp only [QX2_value, gm_cat_i, gm_cat_n, gm_cat_r, hin, hcl, if_true, hp2]
  rw [show (0 : Int32) = nI 0 from rfl, h]
  have e1 := cEv_stack (im 16) (im 17) sz (im 70) 407 p 0 (im 19) (fun _ => 0) (fun j hj => absurd hj (Nat.not_lt_zero _))
  unfold cLaw cVIm
  rw [hok.1, hszc, hp2, hpc, e1]
theorem C_value (im : gm_I) (lm : gm_L) (hok : cLawsOk im) :
    gm_den 43 0 [.ref 15, .int 0, .ref 70, .null, .null, .null, .null, .null] [] 128 gm_RF im lm = some (some (.int (cLaw im 0 (im 70))), 128, gm_RF, cVIm im 0, lm) ∧
    gm_den 43 0 [.ref 15, .int 1, .ref 70, .null, .null, .null, .null, .null] [] 128 gm_RF im lm = some (some (.int (cLaw im 1 (im 70))), 128, gm_RF, cVIm im 1, lm) ∧
    gm_den 43 0 [.ref 15, .int 2, .ref 70, .null, .null, .null, .null, .null] [] 128 gm_RF im lm = some (some (.int (cLaw im 2 (im 70))), 128, gm_RF, cVIm im 2, lm) :=
  ⟨C_valueN 0 im lm (by decide) hok, C_valueN 1 im lm (by decide) hok, C_valueN 2 im lm (by decide) hok⟩
