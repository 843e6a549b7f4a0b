/-! each case of the law's loop: written by wip/whole/gen_law2.py -/
theorem ixs {a L : Nat} (ha : a + 6 ≤ L) (hL : L ≤ 3072) : (nI L).toNatClampNeg = L ∧ (gm_in (nI a) L = true ∧ (nI a).toNatClampNeg = a) ∧ (gm_in (nI a + 1) L = true ∧ (nI a + 1).toNatClampNeg = a + 1) ∧ (gm_in (nI a + 2) L = true ∧ (nI a + 2).toNatClampNeg = a + 2) ∧ (gm_in (nI a + 3) L = true ∧ (nI a + 3).toNatClampNeg = a + 3) ∧ (gm_in (nI a + 4) L = true ∧ (nI a + 4).toNatClampNeg = a + 4) ∧ (gm_in (nI a + 5) L = true ∧ (nI a + 5).toNatClampNeg = a + 5) := by
  rw [show (1 : Int32) = nI 1 from rfl, show (2 : Int32) = nI 2 from rfl, show (3 : Int32) = nI 3 from rfl, show (4 : Int32) = nI 4 from rfl, show (5 : Int32) = nI 5 from rfl, nI_add, nI_add, nI_add, nI_add, nI_add]
  exact ⟨nI_clamp (by omega), ⟨gm_in_nI (by omega) (by omega), nI_clamp (by omega)⟩, ⟨gm_in_nI (by omega) (by omega), nI_clamp (by omega)⟩, ⟨gm_in_nI (by omega) (by omega), nI_clamp (by omega)⟩, ⟨gm_in_nI (by omega) (by omega), nI_clamp (by omega)⟩, ⟨gm_in_nI (by omega) (by omega), nI_clamp (by omega)⟩, ⟨gm_in_nI (by omega) (by omega), nI_clamp (by omega)⟩⟩
/-- the signs, as the text of the signs stands -/
def sgT (j : Nat) : Int32 := (gm_tx.getD 1 []).getD j 0
/-- the static rows: signs and tables -/
def stR (im : gm_I) : Prop := (∀ j, j < 9 → im 1021 j = sgT j) ∧ ∀ r i, r < 5 → i < 20 → im (1001 + r) i = (gm_SA.getD r []).getD i 0
theorem stR_k {im im' : gm_I} (h : stR im) (k : ∀ q, 128 ≤ q → im' q = im q) : stR im' := ⟨fun j hj => by rw [k 1021 (by decide)]; exact h.1 j hj, fun r i hr hi => by rw [k (1001 + r) (by omega)]; exact h.2 r i hr hi⟩
/-- reading: it looks at the signs -/
def AgrS : Prop := ∀ (im : gm_I) (lm : gm_L) (l nm nk nj ns : Nat), Inv im lm l nm nk nj ns → stR im → ∃ (v : Int32) (im1 : gm_I) (lm1 : gm_L) (im2 : gm_I) (lm2 : gm_L) (l' nm' nk' nj' ns' : Nat), gm_den 111 0 [.ref 0, .null] [] 128 gm_RF im lm = some (some (.int v), 128, gm_RF, im1, lm1) ∧ gm_den 182 0 [.ref 84, .null] [] 128 gm_RF im1 lm1 = some (some (.int v), 128, gm_RF, im2, lm2) ∧ Inv im2 lm2 l' nm' nk' nj' ns'
def LCase (pc : Nat) : Prop := ∀ (im : gm_I) (lm : gm_L) (l nm nk nj ns L a : Nat), Inv im lm l nm nk nj ns → a + 6 ≤ L → L ≤ 3072 → im 2000 0 = nI L → stR im → ∃ (im2 : gm_I) (lm2 : gm_L) (l' nm' nk' nj' ns' : Nat), gm_den 304 pc [.ref 1000, .ref 0, .ref 84, .int (nI a)] [] 128 gm_RF im lm = gm_den 304 1462 [.ref 1000, .ref 0, .ref 84, .int (nI a)] [] 128 gm_RF im2 lm2 ∧ Inv im2 lm2 l' nm' nk' nj' ns' ∧ im2 1000 = im 1000 ∧ im2 2000 = im 2000 ∧ ∀ q, 128 ≤ q → im2 q = im q
theorem LC_feed : LCase 192 := by
  intro im lm l nm nk nj ns L a hI ha hL h2 hsg
  have hx := ixs ha hL
  obtain ⟨v, im1, lm1, im2, lm2, l', nm', nk', nj', ns', h3, h4, h5⟩ := (A_feed (im 1000 (a + 1)) (im 1000 (a + 2)) (im 1000 (a + 3)) (im 1000 (a + 4)) (im 1000 (a + 5))) im lm l nm nk nj ns hI
  have k1 := (den_keep h3 (by decide)).2
  have k2 := (den_keep h4 (by decide)).2
  have e1 := k1 1000 (by decide)
  have e2 := k1 2000 (by decide)
  refine ⟨im2, lm2, l', nm', nk', nj', ns', ?_, h5, (k2 1000 (by decide)).trans e1, (k2 2000 (by decide)).trans e2, fun q hq => (k2 q hq).trans (k1 q hq)⟩
  simp only [QL_0, h2, hx, if_true, if_false, h3, gm_cont_i, e1, e2, h4]
theorem LC_back : LCase 255 := by
  intro im lm l nm nk nj ns L a hI ha hL h2 hsg
  have hx := ixs ha hL
  obtain ⟨v, im1, lm1, im2, lm2, l', nm', nk', nj', ns', h3, h4, h5⟩ := (A_back (im 1000 (a + 1))) im lm l nm nk nj ns hI
  have k1 := (den_keep h3 (by decide)).2
  have k2 := (den_keep h4 (by decide)).2
  have e1 := k1 1000 (by decide)
  have e2 := k1 2000 (by decide)
  refine ⟨im2, lm2, l', nm', nk', nj', ns', ?_, h5, (k2 1000 (by decide)).trans e1, (k2 2000 (by decide)).trans e2, fun q hq => (k2 q hq).trans (k1 q hq)⟩
  simp only [QL_1, h2, hx, if_true, if_false, h3, gm_cont_i, e1, e2, h4]
theorem LC_read (hrd : AgrS) : LCase 278 := by
  intro im lm l nm nk nj ns L a hI ha hL h2 hsg
  have hx := ixs ha hL
  obtain ⟨v, im1, lm1, im2, lm2, l', nm', nk', nj', ns', h3, h4, h5⟩ := hrd im lm l nm nk nj ns hI hsg
  have k1 := (den_keep h3 (by decide)).2
  have k2 := (den_keep h4 (by decide)).2
  have e1 := k1 1000 (by decide)
  have e2 := k1 2000 (by decide)
  refine ⟨im2, lm2, l', nm', nk', nj', ns', ?_, h5, (k2 1000 (by decide)).trans e1, (k2 2000 (by decide)).trans e2, fun q hq => (k2 q hq).trans (k1 q hq)⟩
  simp only [QL_2, h2, hx, if_true, if_false, h3, gm_cont_i, e1, e2, h4]
theorem LC_place : LCase 291 := by
  intro im lm l nm nk nj ns L a hI ha hL h2 hsg
  have hx := ixs ha hL
  obtain ⟨v, im1, lm1, im2, lm2, l', nm', nk', nj', ns', h3, h4, h5⟩ := (A_place) im lm l nm nk nj ns hI
  have k1 := (den_keep h3 (by decide)).2
  have k2 := (den_keep h4 (by decide)).2
  have e1 := k1 1000 (by decide)
  have e2 := k1 2000 (by decide)
  refine ⟨im2, lm2, l', nm', nk', nj', ns', ?_, h5, (k2 1000 (by decide)).trans e1, (k2 2000 (by decide)).trans e2, fun q hq => (k2 q hq).trans (k1 q hq)⟩
  simp only [QL_3, h2, hx, if_true, if_false, h3, gm_cont_i, e1, e2, h4]
theorem LC_man : LCase 304 := by
  intro im lm l nm nk nj ns L a hI ha hL h2 hsg
  have hx := ixs ha hL
  obtain ⟨v, im1, lm1, im2, lm2, l', nm', nk', nj', ns', h3, h4, h5⟩ := (A_man (im 1000 (a + 1)) (im 1000 (a + 2))) im lm l nm nk nj ns hI
  have k1 := (den_keep h3 (by decide)).2
  have k2 := (den_keep h4 (by decide)).2
  have e1 := k1 1000 (by decide)
  have e2 := k1 2000 (by decide)
  refine ⟨im2, lm2, l', nm', nk', nj', ns', ?_, h5, (k2 1000 (by decide)).trans e1, (k2 2000 (by decide)).trans e2, fun q hq => (k2 q hq).trans (k1 q hq)⟩
  simp only [QL_4, h2, hx, if_true, if_false, h3, gm_cont_i, e1, e2, h4]
theorem LC_motion : LCase 337 := by
  intro im lm l nm nk nj ns L a hI ha hL h2 hsg
  have hx := ixs ha hL
  obtain ⟨v, im1, lm1, im2, lm2, l', nm', nk', nj', ns', h3, h4, h5⟩ := (A_motion (im 1000 (a + 1)) (im 1000 (a + 2))) im lm l nm nk nj ns hI
  have k1 := (den_keep h3 (by decide)).2
  have k2 := (den_keep h4 (by decide)).2
  have e1 := k1 1000 (by decide)
  have e2 := k1 2000 (by decide)
  refine ⟨im2, lm2, l', nm', nk', nj', ns', ?_, h5, (k2 1000 (by decide)).trans e1, (k2 2000 (by decide)).trans e2, fun q hq => (k2 q hq).trans (k1 q hq)⟩
  simp only [QL_5, h2, hx, if_true, if_false, h3, gm_cont_i, e1, e2, h4]
theorem LC_argues : LCase 370 := by
  intro im lm l nm nk nj ns L a hI ha hL h2 hsg
  have hx := ixs ha hL
  by_cases hb : im 1000 (a + 3) = 0
  · obtain ⟨v, im1, lm1, im2, lm2, l', nm', nk', nj', ns', h3, h4, h5⟩ := (A_argues (im 1000 (a + 1)) (im 1000 (a + 2)) false) im lm l nm nk nj ns hI
    have k1 := (den_keep h3 (by decide)).2
    have k2 := (den_keep h4 (by decide)).2
    have e1 := k1 1000 (by decide)
    have e2 := k1 2000 (by decide)
    simp only [b32_t, b32_f] at h3 h4
    refine ⟨im2, lm2, l', nm', nk', nj', ns', ?_, h5, (k2 1000 (by decide)).trans e1, (k2 2000 (by decide)).trans e2, fun q hq => (k2 q hq).trans (k1 q hq)⟩
    simp only [QL_6, h2, hx, if_true, if_false, h3, gm_cont_i, e1, e2, h4, hb, not_true_eq_false, not_false_eq_true]
  · obtain ⟨v, im1, lm1, im2, lm2, l', nm', nk', nj', ns', h3, h4, h5⟩ := (A_argues (im 1000 (a + 1)) (im 1000 (a + 2)) true) im lm l nm nk nj ns hI
    have k1 := (den_keep h3 (by decide)).2
    have k2 := (den_keep h4 (by decide)).2
    have e1 := k1 1000 (by decide)
    have e2 := k1 2000 (by decide)
    simp only [b32_t, b32_f] at h3 h4
    refine ⟨im2, lm2, l', nm', nk', nj', ns', ?_, h5, (k2 1000 (by decide)).trans e1, (k2 2000 (by decide)).trans e2, fun q hq => (k2 q hq).trans (k1 q hq)⟩
    simp only [QL_6, h2, hx, if_true, if_false, h3, gm_cont_i, e1, e2, h4, hb, not_true_eq_false, not_false_eq_true]
theorem LC_mark : LCase 429 := by
  intro im lm l nm nk nj ns L a hI ha hL h2 hsg
  have hx := ixs ha hL
  by_cases hb : im 1000 (a + 3) = 0
  · obtain ⟨v, im1, lm1, im2, lm2, l', nm', nk', nj', ns', h3, h4, h5⟩ := (A_mark (im 1000 (a + 1)) (im 1000 (a + 2)) false) im lm l nm nk nj ns hI
    have k1 := (den_keep h3 (by decide)).2
    have k2 := (den_keep h4 (by decide)).2
    have e1 := k1 1000 (by decide)
    have e2 := k1 2000 (by decide)
    simp only [b32_t, b32_f] at h3 h4
    refine ⟨im2, lm2, l', nm', nk', nj', ns', ?_, h5, (k2 1000 (by decide)).trans e1, (k2 2000 (by decide)).trans e2, fun q hq => (k2 q hq).trans (k1 q hq)⟩
    simp only [QL_7, h2, hx, if_true, if_false, h3, gm_cont_i, e1, e2, h4, hb, not_true_eq_false, not_false_eq_true]
  · obtain ⟨v, im1, lm1, im2, lm2, l', nm', nk', nj', ns', h3, h4, h5⟩ := (A_mark (im 1000 (a + 1)) (im 1000 (a + 2)) true) im lm l nm nk nj ns hI
    have k1 := (den_keep h3 (by decide)).2
    have k2 := (den_keep h4 (by decide)).2
    have e1 := k1 1000 (by decide)
    have e2 := k1 2000 (by decide)
    simp only [b32_t, b32_f] at h3 h4
    refine ⟨im2, lm2, l', nm', nk', nj', ns', ?_, h5, (k2 1000 (by decide)).trans e1, (k2 2000 (by decide)).trans e2, fun q hq => (k2 q hq).trans (k1 q hq)⟩
    simp only [QL_7, h2, hx, if_true, if_false, h3, gm_cont_i, e1, e2, h4, hb, not_true_eq_false, not_false_eq_true]
theorem LC_sum : LCase 488 := by
  intro im lm l nm nk nj ns L a hI ha hL h2 hsg
  have hx := ixs ha hL
  by_cases hb : im 1000 (a + 2) = 0
  · obtain ⟨v, im1, lm1, im2, lm2, l', nm', nk', nj', ns', h3, h4, h5⟩ := (A_sum (im 1000 (a + 1)) false) im lm l nm nk nj ns hI
    have k1 := (den_keep h3 (by decide)).2
    have k2 := (den_keep h4 (by decide)).2
    have e1 := k1 1000 (by decide)
    have e2 := k1 2000 (by decide)
    simp only [b32_t, b32_f] at h3 h4
    refine ⟨im2, lm2, l', nm', nk', nj', ns', ?_, h5, (k2 1000 (by decide)).trans e1, (k2 2000 (by decide)).trans e2, fun q hq => (k2 q hq).trans (k1 q hq)⟩
    simp only [QL_8, h2, hx, if_true, if_false, h3, gm_cont_i, e1, e2, h4, hb, not_true_eq_false, not_false_eq_true]
  · obtain ⟨v, im1, lm1, im2, lm2, l', nm', nk', nj', ns', h3, h4, h5⟩ := (A_sum (im 1000 (a + 1)) true) im lm l nm nk nj ns hI
    have k1 := (den_keep h3 (by decide)).2
    have k2 := (den_keep h4 (by decide)).2
    have e1 := k1 1000 (by decide)
    have e2 := k1 2000 (by decide)
    simp only [b32_t, b32_f] at h3 h4
    refine ⟨im2, lm2, l', nm', nk', nj', ns', ?_, h5, (k2 1000 (by decide)).trans e1, (k2 2000 (by decide)).trans e2, fun q hq => (k2 q hq).trans (k1 q hq)⟩
    simp only [QL_8, h2, hx, if_true, if_false, h3, gm_cont_i, e1, e2, h4, hb, not_true_eq_false, not_false_eq_true]
theorem LC_speak : LCase 537 := by
  intro im lm l nm nk nj ns L a hI ha hL h2 hsg
  have hx := ixs ha hL
  obtain ⟨v, im1, lm1, im2, lm2, l', nm', nk', nj', ns', h3, h4, h5⟩ := (A_speak (im 1000 (a + 1)) (im 1000 (a + 2)) (im 1000 (a + 3))) im lm l nm nk nj ns hI
  have k1 := (den_keep h3 (by decide)).2
  have k2 := (den_keep h4 (by decide)).2
  have e1 := k1 1000 (by decide)
  have e2 := k1 2000 (by decide)
  refine ⟨im2, lm2, l', nm', nk', nj', ns', ?_, h5, (k2 1000 (by decide)).trans e1, (k2 2000 (by decide)).trans e2, fun q hq => (k2 q hq).trans (k1 q hq)⟩
  simp only [QL_9, h2, hx, if_true, if_false, h3, gm_cont_i, e1, e2, h4]
theorem LC_praise : LCase 580 := by
  intro im lm l nm nk nj ns L a hI ha hL h2 hsg
  have hx := ixs ha hL
  obtain ⟨v, im1, lm1, im2, lm2, l', nm', nk', nj', ns', h3, h4, h5⟩ := (A_praise (im 1000 (a + 1))) im lm l nm nk nj ns hI
  have k1 := (den_keep h3 (by decide)).2
  have k2 := (den_keep h4 (by decide)).2
  have e1 := k1 1000 (by decide)
  have e2 := k1 2000 (by decide)
  refine ⟨im2, lm2, l', nm', nk', nj', ns', ?_, h5, (k2 1000 (by decide)).trans e1, (k2 2000 (by decide)).trans e2, fun q hq => (k2 q hq).trans (k1 q hq)⟩
  simp only [QL_10, h2, hx, if_true, if_false, h3, gm_cont_i, e1, e2, h4]
theorem LC_reads : LCase 603 := by
  intro im lm l nm nk nj ns L a hI ha hL h2 hsg
  have hx := ixs ha hL
  obtain ⟨v, im1, lm1, im2, lm2, l', nm', nk', nj', ns', h3, h4, h5⟩ := (A_reads (im 1000 (a + 1)) (im 1000 (a + 2))) im lm l nm nk nj ns hI
  have k1 := (den_keep h3 (by decide)).2
  have k2 := (den_keep h4 (by decide)).2
  have e1 := k1 1000 (by decide)
  have e2 := k1 2000 (by decide)
  refine ⟨im2, lm2, l', nm', nk', nj', ns', ?_, h5, (k2 1000 (by decide)).trans e1, (k2 2000 (by decide)).trans e2, fun q hq => (k2 q hq).trans (k1 q hq)⟩
  simp only [QL_11, h2, hx, if_true, if_false, h3, gm_cont_i, e1, e2, h4]
theorem LC_swear : LCase 636 := by
  intro im lm l nm nk nj ns L a hI ha hL h2 hsg
  have hx := ixs ha hL
  obtain ⟨v, im1, lm1, im2, lm2, l', nm', nk', nj', ns', h3, h4, h5⟩ := (A_swear (im 1000 (a + 1)) (im 1000 (a + 2))) im lm l nm nk nj ns hI
  have k1 := (den_keep h3 (by decide)).2
  have k2 := (den_keep h4 (by decide)).2
  have e1 := k1 1000 (by decide)
  have e2 := k1 2000 (by decide)
  refine ⟨im2, lm2, l', nm', nk', nj', ns', ?_, h5, (k2 1000 (by decide)).trans e1, (k2 2000 (by decide)).trans e2, fun q hq => (k2 q hq).trans (k1 q hq)⟩
  simp only [QL_12, h2, hx, if_true, if_false, h3, gm_cont_i, e1, e2, h4]
theorem LC_session : LCase 669 := by
  intro im lm l nm nk nj ns L a hI ha hL h2 hsg
  have hx := ixs ha hL
  obtain ⟨v, im1, lm1, im2, lm2, l', nm', nk', nj', ns', h3, h4, h5⟩ := (A_session (im 1000 (a + 1))) im lm l nm nk nj ns hI
  have k1 := (den_keep h3 (by decide)).2
  have k2 := (den_keep h4 (by decide)).2
  have e1 := k1 1000 (by decide)
  have e2 := k1 2000 (by decide)
  refine ⟨im2, lm2, l', nm', nk', nj', ns', ?_, h5, (k2 1000 (by decide)).trans e1, (k2 2000 (by decide)).trans e2, fun q hq => (k2 q hq).trans (k1 q hq)⟩
  simp only [QL_13, h2, hx, if_true, if_false, h3, gm_cont_i, e1, e2, h4]
theorem LC_undo : LCase 692 := by
  intro im lm l nm nk nj ns L a hI ha hL h2 hsg
  have hx := ixs ha hL
  obtain ⟨v, im1, lm1, im2, lm2, l', nm', nk', nj', ns', h3, h4, h5⟩ := (A_undo) im lm l nm nk nj ns hI
  have k1 := (den_keep h3 (by decide)).2
  have k2 := (den_keep h4 (by decide)).2
  have e1 := k1 1000 (by decide)
  have e2 := k1 2000 (by decide)
  refine ⟨im2, lm2, l', nm', nk', nj', ns', ?_, h5, (k2 1000 (by decide)).trans e1, (k2 2000 (by decide)).trans e2, fun q hq => (k2 q hq).trans (k1 q hq)⟩
  simp only [QL_14, h2, hx, if_true, if_false, h3, gm_cont_i, e1, e2, h4]
theorem LC_now : LCase 705 := by
  intro im lm l nm nk nj ns L a hI ha hL h2 hsg
  have hx := ixs ha hL
  obtain ⟨v, im1, lm1, im2, lm2, l', nm', nk', nj', ns', h3, h4, h5⟩ := (A_now (im 1000 (a + 1)) (im 1000 (a + 2))) im lm l nm nk nj ns hI
  have k1 := (den_keep h3 (by decide)).2
  have k2 := (den_keep h4 (by decide)).2
  have e1 := k1 1000 (by decide)
  have e2 := k1 2000 (by decide)
  refine ⟨im2, lm2, l', nm', nk', nj', ns', ?_, h5, (k2 1000 (by decide)).trans e1, (k2 2000 (by decide)).trans e2, fun q hq => (k2 q hq).trans (k1 q hq)⟩
  simp only [QL_15, h2, hx, if_true, if_false, h3, gm_cont_i, e1, e2, h4]
theorem LC_likely : LCase 738 := by
  intro im lm l nm nk nj ns L a hI ha hL h2 hsg
  have hx := ixs ha hL
  by_cases hb : im 1000 (a + 3) = 0
  · obtain ⟨v, im1, lm1, im2, lm2, l', nm', nk', nj', ns', h3, h4, h5⟩ := (A_likely (im 1000 (a + 1)) (im 1000 (a + 2)) false) im lm l nm nk nj ns hI
    have k1 := (den_keep h3 (by decide)).2
    have k2 := (den_keep h4 (by decide)).2
    have e1 := k1 1000 (by decide)
    have e2 := k1 2000 (by decide)
    simp only [b32_t, b32_f] at h3 h4
    refine ⟨im2, lm2, l', nm', nk', nj', ns', ?_, h5, (k2 1000 (by decide)).trans e1, (k2 2000 (by decide)).trans e2, fun q hq => (k2 q hq).trans (k1 q hq)⟩
    simp only [QL_16, h2, hx, if_true, if_false, h3, gm_cont_i, e1, e2, h4, hb, not_true_eq_false, not_false_eq_true]
  · obtain ⟨v, im1, lm1, im2, lm2, l', nm', nk', nj', ns', h3, h4, h5⟩ := (A_likely (im 1000 (a + 1)) (im 1000 (a + 2)) true) im lm l nm nk nj ns hI
    have k1 := (den_keep h3 (by decide)).2
    have k2 := (den_keep h4 (by decide)).2
    have e1 := k1 1000 (by decide)
    have e2 := k1 2000 (by decide)
    simp only [b32_t, b32_f] at h3 h4
    refine ⟨im2, lm2, l', nm', nk', nj', ns', ?_, h5, (k2 1000 (by decide)).trans e1, (k2 2000 (by decide)).trans e2, fun q hq => (k2 q hq).trans (k1 q hq)⟩
    simp only [QL_16, h2, hx, if_true, if_false, h3, gm_cont_i, e1, e2, h4, hb, not_true_eq_false, not_false_eq_true]
theorem LC_change : LCase 797 := by
  intro im lm l nm nk nj ns L a hI ha hL h2 hsg
  have hx := ixs ha hL
  obtain ⟨v, im1, lm1, im2, lm2, l', nm', nk', nj', ns', h3, h4, h5⟩ := (A_change (im 1000 (a + 1)) (im 1000 (a + 2)) (im 1000 (a + 3))) im lm l nm nk nj ns hI
  have k1 := (den_keep h3 (by decide)).2
  have k2 := (den_keep h4 (by decide)).2
  have e1 := k1 1000 (by decide)
  have e2 := k1 2000 (by decide)
  refine ⟨im2, lm2, l', nm', nk', nj', ns', ?_, h5, (k2 1000 (by decide)).trans e1, (k2 2000 (by decide)).trans e2, fun q hq => (k2 q hq).trans (k1 q hq)⟩
  simp only [QL_17, h2, hx, if_true, if_false, h3, gm_cont_i, e1, e2, h4]
theorem LC_choose : LCase 840 := by
  intro im lm l nm nk nj ns L a hI ha hL h2 hsg
  have hx := ixs ha hL
  obtain ⟨v, im1, lm1, im2, lm2, l', nm', nk', nj', ns', h3, h4, h5⟩ := (A_choose (im 1000 (a + 1)) (im 1000 (a + 2)) (im 1000 (a + 3))) im lm l nm nk nj ns hI
  have k1 := (den_keep h3 (by decide)).2
  have k2 := (den_keep h4 (by decide)).2
  have e1 := k1 1000 (by decide)
  have e2 := k1 2000 (by decide)
  refine ⟨im2, lm2, l', nm', nk', nj', ns', ?_, h5, (k2 1000 (by decide)).trans e1, (k2 2000 (by decide)).trans e2, fun q hq => (k2 q hq).trans (k1 q hq)⟩
  simp only [QL_18, h2, hx, if_true, if_false, h3, gm_cont_i, e1, e2, h4]
theorem LC_chosen : LCase 883 := by
  intro im lm l nm nk nj ns L a hI ha hL h2 hsg
  have hx := ixs ha hL
  by_cases hb : im 1000 (a + 3) = 0
  · obtain ⟨v, im1, lm1, im2, lm2, l', nm', nk', nj', ns', h3, h4, h5⟩ := (A_chosen (im 1000 (a + 1)) (im 1000 (a + 2)) false) im lm l nm nk nj ns hI
    have k1 := (den_keep h3 (by decide)).2
    have k2 := (den_keep h4 (by decide)).2
    have e1 := k1 1000 (by decide)
    have e2 := k1 2000 (by decide)
    simp only [b32_t, b32_f] at h3 h4
    refine ⟨im2, lm2, l', nm', nk', nj', ns', ?_, h5, (k2 1000 (by decide)).trans e1, (k2 2000 (by decide)).trans e2, fun q hq => (k2 q hq).trans (k1 q hq)⟩
    simp only [QL_19, h2, hx, if_true, if_false, h3, gm_cont_i, e1, e2, h4, hb, not_true_eq_false, not_false_eq_true]
  · obtain ⟨v, im1, lm1, im2, lm2, l', nm', nk', nj', ns', h3, h4, h5⟩ := (A_chosen (im 1000 (a + 1)) (im 1000 (a + 2)) true) im lm l nm nk nj ns hI
    have k1 := (den_keep h3 (by decide)).2
    have k2 := (den_keep h4 (by decide)).2
    have e1 := k1 1000 (by decide)
    have e2 := k1 2000 (by decide)
    simp only [b32_t, b32_f] at h3 h4
    refine ⟨im2, lm2, l', nm', nk', nj', ns', ?_, h5, (k2 1000 (by decide)).trans e1, (k2 2000 (by decide)).trans e2, fun q hq => (k2 q hq).trans (k1 q hq)⟩
    simp only [QL_19, h2, hx, if_true, if_false, h3, gm_cont_i, e1, e2, h4, hb, not_true_eq_false, not_false_eq_true]
theorem LC_mumble : LCase 942 := by
  intro im lm l nm nk nj ns L a hI ha hL h2 hsg
  have hx := ixs ha hL
  obtain ⟨v, im1, lm1, im2, lm2, l', nm', nk', nj', ns', h3, h4, h5⟩ := (A_mumble (im 1000 (a + 1)) (im 1000 (a + 2))) im lm l nm nk nj ns hI
  have k1 := (den_keep h3 (by decide)).2
  have k2 := (den_keep h4 (by decide)).2
  have e1 := k1 1000 (by decide)
  have e2 := k1 2000 (by decide)
  refine ⟨im2, lm2, l', nm', nk', nj', ns', ?_, h5, (k2 1000 (by decide)).trans e1, (k2 2000 (by decide)).trans e2, fun q hq => (k2 q hq).trans (k1 q hq)⟩
  simp only [QL_20, h2, hx, if_true, if_false, h3, gm_cont_i, e1, e2, h4]
theorem LC_jury : LCase 975 := by
  intro im lm l nm nk nj ns L a hI ha hL h2 hsg
  have hx := ixs ha hL
  obtain ⟨v, im1, lm1, im2, lm2, l', nm', nk', nj', ns', h3, h4, h5⟩ := (A_jury (im 1000 (a + 1)) (im 1000 (a + 2)) (im 1000 (a + 3))) im lm l nm nk nj ns hI
  have k1 := (den_keep h3 (by decide)).2
  have k2 := (den_keep h4 (by decide)).2
  have e1 := k1 1000 (by decide)
  have e2 := k1 2000 (by decide)
  refine ⟨im2, lm2, l', nm', nk', nj', ns', ?_, h5, (k2 1000 (by decide)).trans e1, (k2 2000 (by decide)).trans e2, fun q hq => (k2 q hq).trans (k1 q hq)⟩
  simp only [QL_21, h2, hx, if_true, if_false, h3, gm_cont_i, e1, e2, h4]
theorem LC_say : LCase 1018 := by
  intro im lm l nm nk nj ns L a hI ha hL h2 hsg
  have hx := ixs ha hL
  obtain ⟨v, im1, lm1, im2, lm2, l', nm', nk', nj', ns', h3, h4, h5⟩ := (A_say (im 1000 (a + 1)) (im 1000 (a + 2))) im lm l nm nk nj ns hI
  have k1 := (den_keep h3 (by decide)).2
  have k2 := (den_keep h4 (by decide)).2
  have e1 := k1 1000 (by decide)
  have e2 := k1 2000 (by decide)
  refine ⟨im2, lm2, l', nm', nk', nj', ns', ?_, h5, (k2 1000 (by decide)).trans e1, (k2 2000 (by decide)).trans e2, fun q hq => (k2 q hq).trans (k1 q hq)⟩
  simp only [QL_22, h2, hx, if_true, if_false, h3, gm_cont_i, e1, e2, h4]
theorem LC_fine : LCase 1051 := by
  intro im lm l nm nk nj ns L a hI ha hL h2 hsg
  have hx := ixs ha hL
  by_cases hb : im 1000 (a + 2) = 0
  · obtain ⟨v, im1, lm1, im2, lm2, l', nm', nk', nj', ns', h3, h4, h5⟩ := (A_fine (im 1000 (a + 1)) false) im lm l nm nk nj ns hI
    have k1 := (den_keep h3 (by decide)).2
    have k2 := (den_keep h4 (by decide)).2
    have e1 := k1 1000 (by decide)
    have e2 := k1 2000 (by decide)
    simp only [b32_t, b32_f] at h3 h4
    refine ⟨im2, lm2, l', nm', nk', nj', ns', ?_, h5, (k2 1000 (by decide)).trans e1, (k2 2000 (by decide)).trans e2, fun q hq => (k2 q hq).trans (k1 q hq)⟩
    simp only [QL_23, h2, hx, if_true, if_false, h3, gm_cont_i, e1, e2, h4, hb, not_true_eq_false, not_false_eq_true]
  · obtain ⟨v, im1, lm1, im2, lm2, l', nm', nk', nj', ns', h3, h4, h5⟩ := (A_fine (im 1000 (a + 1)) true) im lm l nm nk nj ns hI
    have k1 := (den_keep h3 (by decide)).2
    have k2 := (den_keep h4 (by decide)).2
    have e1 := k1 1000 (by decide)
    have e2 := k1 2000 (by decide)
    simp only [b32_t, b32_f] at h3 h4
    refine ⟨im2, lm2, l', nm', nk', nj', ns', ?_, h5, (k2 1000 (by decide)).trans e1, (k2 2000 (by decide)).trans e2, fun q hq => (k2 q hq).trans (k1 q hq)⟩
    simp only [QL_23, h2, hx, if_true, if_false, h3, gm_cont_i, e1, e2, h4, hb, not_true_eq_false, not_false_eq_true]
theorem LC_ahead : LCase 1100 := by
  intro im lm l nm nk nj ns L a hI ha hL h2 hsg
  have hx := ixs ha hL
  obtain ⟨v, im1, lm1, im2, lm2, l', nm', nk', nj', ns', h3, h4, h5⟩ := (A_ahead (im 1000 (a + 1))) im lm l nm nk nj ns hI
  have k1 := (den_keep h3 (by decide)).2
  have k2 := (den_keep h4 (by decide)).2
  have e1 := k1 1000 (by decide)
  have e2 := k1 2000 (by decide)
  refine ⟨im2, lm2, l', nm', nk', nj', ns', ?_, h5, (k2 1000 (by decide)).trans e1, (k2 2000 (by decide)).trans e2, fun q hq => (k2 q hq).trans (k1 q hq)⟩
  simp only [QL_24, h2, hx, if_true, if_false, h3, gm_cont_i, e1, e2, h4]
theorem LC_harsh : LCase 1123 := by
  intro im lm l nm nk nj ns L a hI ha hL h2 hsg
  have hx := ixs ha hL
  by_cases hb : im 1000 (a + 2) = 0
  · obtain ⟨v, im1, lm1, im2, lm2, l', nm', nk', nj', ns', h3, h4, h5⟩ := (A_harsh (im 1000 (a + 1)) false) im lm l nm nk nj ns hI
    have k1 := (den_keep h3 (by decide)).2
    have k2 := (den_keep h4 (by decide)).2
    have e1 := k1 1000 (by decide)
    have e2 := k1 2000 (by decide)
    simp only [b32_t, b32_f] at h3 h4
    refine ⟨im2, lm2, l', nm', nk', nj', ns', ?_, h5, (k2 1000 (by decide)).trans e1, (k2 2000 (by decide)).trans e2, fun q hq => (k2 q hq).trans (k1 q hq)⟩
    simp only [QL_25, h2, hx, if_true, if_false, h3, gm_cont_i, e1, e2, h4, hb, not_true_eq_false, not_false_eq_true]
  · obtain ⟨v, im1, lm1, im2, lm2, l', nm', nk', nj', ns', h3, h4, h5⟩ := (A_harsh (im 1000 (a + 1)) true) im lm l nm nk nj ns hI
    have k1 := (den_keep h3 (by decide)).2
    have k2 := (den_keep h4 (by decide)).2
    have e1 := k1 1000 (by decide)
    have e2 := k1 2000 (by decide)
    simp only [b32_t, b32_f] at h3 h4
    refine ⟨im2, lm2, l', nm', nk', nj', ns', ?_, h5, (k2 1000 (by decide)).trans e1, (k2 2000 (by decide)).trans e2, fun q hq => (k2 q hq).trans (k1 q hq)⟩
    simp only [QL_25, h2, hx, if_true, if_false, h3, gm_cont_i, e1, e2, h4, hb, not_true_eq_false, not_false_eq_true]
theorem LC_praiseFor : LCase 1172 := by
  intro im lm l nm nk nj ns L a hI ha hL h2 hsg
  have hx := ixs ha hL
  obtain ⟨v, im1, lm1, im2, lm2, l', nm', nk', nj', ns', h3, h4, h5⟩ := (A_praiseFor (im 1000 (a + 1)) (im 1000 (a + 2)) (im 1000 (a + 3))) im lm l nm nk nj ns hI
  have k1 := (den_keep h3 (by decide)).2
  have k2 := (den_keep h4 (by decide)).2
  have e1 := k1 1000 (by decide)
  have e2 := k1 2000 (by decide)
  refine ⟨im2, lm2, l', nm', nk', nj', ns', ?_, h5, (k2 1000 (by decide)).trans e1, (k2 2000 (by decide)).trans e2, fun q hq => (k2 q hq).trans (k1 q hq)⟩
  simp only [QL_26, h2, hx, if_true, if_false, h3, gm_cont_i, e1, e2, h4]
theorem LC_old : LCase 1215 := by
  intro im lm l nm nk nj ns L a hI ha hL h2 hsg
  have hx := ixs ha hL
  obtain ⟨v, im1, lm1, im2, lm2, l', nm', nk', nj', ns', h3, h4, h5⟩ := (A_old (im 1000 (a + 1)) (im 1000 (a + 2))) im lm l nm nk nj ns hI
  have k1 := (den_keep h3 (by decide)).2
  have k2 := (den_keep h4 (by decide)).2
  have e1 := k1 1000 (by decide)
  have e2 := k1 2000 (by decide)
  refine ⟨im2, lm2, l', nm', nk', nj', ns', ?_, h5, (k2 1000 (by decide)).trans e1, (k2 2000 (by decide)).trans e2, fun q hq => (k2 q hq).trans (k1 q hq)⟩
  simp only [QL_27, h2, hx, if_true, if_false, h3, gm_cont_i, e1, e2, h4]
theorem LC_year : LCase 1248 := by
  intro im lm l nm nk nj ns L a hI ha hL h2 hsg
  have hx := ixs ha hL
  obtain ⟨v, im1, lm1, im2, lm2, l', nm', nk', nj', ns', h3, h4, h5⟩ := (A_year (im 1000 (a + 1)) (im 1000 (a + 2))) im lm l nm nk nj ns hI
  have k1 := (den_keep h3 (by decide)).2
  have k2 := (den_keep h4 (by decide)).2
  have e1 := k1 1000 (by decide)
  have e2 := k1 2000 (by decide)
  refine ⟨im2, lm2, l', nm', nk', nj', ns', ?_, h5, (k2 1000 (by decide)).trans e1, (k2 2000 (by decide)).trans e2, fun q hq => (k2 q hq).trans (k1 q hq)⟩
  simp only [QL_28, h2, hx, if_true, if_false, h3, gm_cont_i, e1, e2, h4]
theorem LC_tell : LCase 1281 := by
  intro im lm l nm nk nj ns L a hI ha hL h2 hsg
  have hx := ixs ha hL
  obtain ⟨v, im1, lm1, im2, lm2, l', nm', nk', nj', ns', h3, h4, h5⟩ := (A_tell (im 1000 (a + 1)) (im 1000 (a + 2))) im lm l nm nk nj ns hI
  have k1 := (den_keep h3 (by decide)).2
  have k2 := (den_keep h4 (by decide)).2
  have e1 := k1 1000 (by decide)
  have e2 := k1 2000 (by decide)
  refine ⟨im2, lm2, l', nm', nk', nj', ns', ?_, h5, (k2 1000 (by decide)).trans e1, (k2 2000 (by decide)).trans e2, fun q hq => (k2 q hq).trans (k1 q hq)⟩
  simp only [QL_29, h2, hx, if_true, if_false, h3, gm_cont_i, e1, e2, h4]
theorem LC_forget : LCase 1314 := by
  intro im lm l nm nk nj ns L a hI ha hL h2 hsg
  have hx := ixs ha hL
  obtain ⟨v, im1, lm1, im2, lm2, l', nm', nk', nj', ns', h3, h4, h5⟩ := (A_forget) im lm l nm nk nj ns hI
  have k1 := (den_keep h3 (by decide)).2
  have k2 := (den_keep h4 (by decide)).2
  have e1 := k1 1000 (by decide)
  have e2 := k1 2000 (by decide)
  refine ⟨im2, lm2, l', nm', nk', nj', ns', ?_, h5, (k2 1000 (by decide)).trans e1, (k2 2000 (by decide)).trans e2, fun q hq => (k2 q hq).trans (k1 q hq)⟩
  simp only [QL_30, h2, hx, if_true, if_false, h3, gm_cont_i, e1, e2, h4]
theorem LC_slipped : LCase 1327 := by
  intro im lm l nm nk nj ns L a hI ha hL h2 hsg
  have hx := ixs ha hL
  obtain ⟨v, im1, lm1, im2, lm2, l', nm', nk', nj', ns', h3, h4, h5⟩ := (A_slipped (im 1000 (a + 1)) (im 1000 (a + 2))) im lm l nm nk nj ns hI
  have k1 := (den_keep h3 (by decide)).2
  have k2 := (den_keep h4 (by decide)).2
  have e1 := k1 1000 (by decide)
  have e2 := k1 2000 (by decide)
  refine ⟨im2, lm2, l', nm', nk', nj', ns', ?_, h5, (k2 1000 (by decide)).trans e1, (k2 2000 (by decide)).trans e2, fun q hq => (k2 q hq).trans (k1 q hq)⟩
  simp only [QL_31, h2, hx, if_true, if_false, h3, gm_cont_i, e1, e2, h4]
theorem LC_thinks : LCase 1360 := by
  intro im lm l nm nk nj ns L a hI ha hL h2 hsg
  have hx := ixs ha hL
  obtain ⟨v, im1, lm1, im2, lm2, l', nm', nk', nj', ns', h3, h4, h5⟩ := (A_thinks (im 1000 (a + 1)) (im 1000 (a + 2))) im lm l nm nk nj ns hI
  have k1 := (den_keep h3 (by decide)).2
  have k2 := (den_keep h4 (by decide)).2
  have e1 := k1 1000 (by decide)
  have e2 := k1 2000 (by decide)
  refine ⟨im2, lm2, l', nm', nk', nj', ns', ?_, h5, (k2 1000 (by decide)).trans e1, (k2 2000 (by decide)).trans e2, fun q hq => (k2 q hq).trans (k1 q hq)⟩
  simp only [QL_32, h2, hx, if_true, if_false, h3, gm_cont_i, e1, e2, h4]
theorem LC_hold : LCase 1393 := by
  intro im lm l nm nk nj ns L a hI ha hL h2 hsg
  have hx := ixs ha hL
  obtain ⟨v, im1, lm1, im2, lm2, l', nm', nk', nj', ns', h3, h4, h5⟩ := (A_hold (im 1000 (a + 1))) im lm l nm nk nj ns hI
  have k1 := (den_keep h3 (by decide)).2
  have k2 := (den_keep h4 (by decide)).2
  have e1 := k1 1000 (by decide)
  have e2 := k1 2000 (by decide)
  refine ⟨im2, lm2, l', nm', nk', nj', ns', ?_, h5, (k2 1000 (by decide)).trans e1, (k2 2000 (by decide)).trans e2, fun q hq => (k2 q hq).trans (k1 q hq)⟩
  simp only [QL_33, h2, hx, if_true, if_false, h3, gm_cont_i, e1, e2, h4]
theorem LC_restore : LCase 1416 := by
  intro im lm l nm nk nj ns L a hI ha hL h2 hsg
  have hx := ixs ha hL
  obtain ⟨v, im1, lm1, im2, lm2, l', nm', nk', nj', ns', h3, h4, h5⟩ := (A_restore (im 1000 (a + 1))) im lm l nm nk nj ns hI
  have k1 := (den_keep h3 (by decide)).2
  have k2 := (den_keep h4 (by decide)).2
  have e1 := k1 1000 (by decide)
  have e2 := k1 2000 (by decide)
  refine ⟨im2, lm2, l', nm', nk', nj', ns', ?_, h5, (k2 1000 (by decide)).trans e1, (k2 2000 (by decide)).trans e2, fun q hq => (k2 q hq).trans (k1 q hq)⟩
  simp only [QL_34, h2, hx, if_true, if_false, h3, gm_cont_i, e1, e2, h4]
theorem LC_count : LCase 1439 := by
  intro im lm l nm nk nj ns L a hI ha hL h2 hsg
  have hx := ixs ha hL
  obtain ⟨v, im1, lm1, im2, lm2, l', nm', nk', nj', ns', h3, h4, h5⟩ := (A_count (im 1000 (a + 1))) im lm l nm nk nj ns hI
  have k1 := (den_keep h3 (by decide)).2
  have k2 := (den_keep h4 (by decide)).2
  have e1 := k1 1000 (by decide)
  have e2 := k1 2000 (by decide)
  refine ⟨im2, lm2, l', nm', nk', nj', ns', ?_, h5, (k2 1000 (by decide)).trans e1, (k2 2000 (by decide)).trans e2, fun q hq => (k2 q hq).trans (k1 q hq)⟩
  simp only [QL_35, h2, hx, if_true, if_false, h3, gm_cont_i, e1, e2, h4]
