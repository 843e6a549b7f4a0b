/-! the roll is filled, tell by tell -/
def lwAt (K V : Nat → Nat) (a e : Nat) : LW := lwR K V a (e - a + 1)
/-- a law that was told at a, to its end e -/
def lwOk (K : Nat → Nat) (N a e : Nat) : Prop := 2 ≤ a ∧ a ≤ e ∧ e < N ∧ K e = 59 ∧ (∀ y, a - 2 ≤ y → y < e → ¬ K y = 59) ∧ (gst K g0 a).w = 3 ∧ (gst K g0 a).sc = 0 ∧ (gst K g0 a).op = 0
def cLws (im : gm_I) (K V : Nat → Nat) (N : Nat) (la : Nat → Nat) (z : Nat) : Prop := (6 ≤ z ∧ im 15 5 = nI z) ∧ (im 16 0 = 1 ∧ im 16 1 = 2 ∧ im 16 2 = 1 ∧ im 16 3 = 2 ∧ im 16 4 = 0 ∧ im 16 5 = 2 ∧ im 17 0 = 0 ∧ im 17 1 = 0 ∧ im 17 2 = 5 ∧ im 17 3 = 0 ∧ im 17 4 = 0 ∧ im 17 5 = 0) ∧ (∀ y, 6 ≤ y → y < z → ∃ i, i ≤ 10000 ∧ im 17 y = nI i ∧ (im 16 y = 1 → i < 9)) ∧ ∀ k, k < 3 → (la k = 0 ∧ im 18 k = nI (2 * k)) ∨ ∃ e st, lwOk K N (la k) e ∧ 6 ≤ st ∧ im 18 k = nI st ∧ cReg im (lwAt K V (la k) e) st ∧ st + (lwAt K V (la k) e).sn ≤ z
def cFi (im : gm_I) (V : Nat → Nat) (A : TA) : Prop := (im 11 0 = nI A.sd ∧ im 11 1 = nI A.se ∧ im 11 2 = nI A.nm ∧ im 11 3 = nI A.nk ∧ im 11 4 = nI A.nj) ∧ (∀ a i, a < A.nm → i < 4 → im 12 (4 * a + i) = nI (V (A.mi a + 2 + i))) ∧ (∀ m i, m < A.nk → i < 3 → im 13 (3 * m + i) = nI (V (A.ki m + 2 + i))) ∧ (∀ j, j < A.nj → im 14 j = nI (V (A.ji j + 2)))
theorem cFi_fr {im im' : gm_I} {V : Nat → Nat} {A A' : TA} (h : cFi im V A) (h1 : im' 11 = im 11) (h2 : im' 12 = im 12) (h3 : im' 13 = im 13) (h4 : im' 14 = im 14) (e1 : A'.sd = A.sd) (e2 : A'.se = A.se) (e3 : A'.nm = A.nm) (e4 : A'.nk = A.nk) (e5 : A'.nj = A.nj) (e6 : A'.mi = A.mi) (e7 : A'.ki = A.ki) (e8 : A'.ji = A.ji) : cFi im' V A' := by
  unfold cFi
  rw [h1, h2, h3, h4, e1, e2, e3, e4, e5, e6, e7, e8]
  exact h
theorem cLws_fr {im im' : gm_I} {K V : Nat → Nat} {N z : Nat} {la la' : Nat → Nat} (h : cLws im K V N la z) (h1 : im' 15 = im 15) (h2 : im' 16 = im 16) (h3 : im' 17 = im 17) (h4 : im' 18 = im 18) (e : la' = la) : cLws im' K V N la' z := by
  unfold cLws cReg
  rw [h1, h2, h3, h4, e]
  exact h
section
variable {K V P : Nat → Nat} {N : Nat}
theorem C_fill_loop {im0 : gm_I} {lm : gm_L} (hT0 : tokR im0 lm K V P N) (h4 : N ≤ 400) (hK : ∀ t, K t < 148) (hV2 : ∀ t, K t = 2 → V t ≤ 9999) (hok : okT K g0 N) (hw : (gst K g0 N).w = 0) : ∀ (w t : Nat) (im : gm_I) (x3 : Value) (z E : Nat), t + w = N → Fr [11, 12, 13, 14, 15, 16, 17, 18, 20] im0 im → cFi im V (foA K V t) → cLws im K V N (foA K V t).la z → z ≤ 6 + E → E ≤ N → (∀ y, t ≤ y → y < E → tS K y = false) → x3.category = 1 → ∃ im' z', gm_den 57 34 [.ref 11, .ref 7, .int (nI t), x3] [] 128 gm_RF im lm = some (none, 128, gm_RF, im', lm) ∧ Fr [11, 12, 13, 14, 15, 16, 17, 18, 20] im0 im' ∧ cFi im' V (foA K V N) ∧ cLws im' K V N (foA K V N).la z' ∧ z' ≤ 406 := by
  intro w
  induction w with
  | zero =>
    intro t im x3 z E ht hF hC hL hz hE hS c3
    have : t = N := by omega
    subst this
    have e1 : im 7 3 = nI t := by rw [hF 7 (by decide)]; exact hT0.1
    have c : nI t ≤ nI t := Int32.le_refl _
    refine ⟨im, z, ?_, hF, hC, hL, by omega⟩
    rw [LX5_fill_34]
    simp (decide := true) only [QX5_fill, e1, c, if_true]
  | succ w ih =>
    intro t im x3 z E ht hF hC hL hz hE hS c3
    have htN : t < N := by omega
    have hT : tokR im lm K V P N := by
      unfold tokR
      rw [hF 7 (by decide), hF 8 (by decide), hF 10 (by decide)]
      exact hT0
    have c : ¬ nI N ≤ nI t := nI_ge htN (by omega)
    have hta := C_tellAt hT h4 hK htN
    have e2 : foA K V (t + 1) = cond (tS K t) (tlT K V (foA K V t) t) (foA K V t) := rfl
    cases hs : tS K t with
    | false =>
      rw [hs] at hta e2
      simp only [cond_false] at hta e2
      obtain ⟨im', z', i1, i2⟩ := ih (t + 1) im (.int (-1)) z E (by omega) hF (by rw [e2]; exact hC) (by rw [e2]; exact hL) hz hE (fun y a b => hS y (by omega) b) rfl
      refine ⟨im', z', ?_, i2⟩
      rw [← i1, LX5_fill_34]
      simp (decide := true) only [QX5_fill, hT.1, c, hta, gm_cont_i, if_true, if_false, c3, nI_a1]
    | true =>
      have hEt : E ≤ t := by
        apply Classical.byContradiction
        intro h
        have := hS t (Nat.le_refl _) (by omega)
        rw [hs] at this
        cases this
      rw [hs] at hta e2
      simp only [cond_true] at hta e2
      have hokt := okT_le hok (show t ≤ N by omega)
      have hJ := gst_J (V := V) hokt
      have hw0 := hJ.1.mpr hs
      have hJ1 := gst_J (V := V) (okT_le hok (show t + 1 ≤ N by omega))
      have hf := (hok.2 t htN).2
      unfold gf at hf
      rw [if_pos hw0] at hf
      have hr : ¬ (K t < 128 ∨ 136 ≤ K t) := fun e => by rw [if_pos e] at hf; cases hf
      obtain ⟨s, hks⟩ : ∃ s, K t = 128 + s := ⟨K t - 128, by omega⟩
      have hs8 : s < 8 := by omega
      have hsb : nI (K t) - 128 = nI s := by rw [hks, show (128 : Int32) = nI 128 from rfl, nI_sub (by omega), Nat.add_sub_cancel_left]
      rw [hsb] at hta
      have c0 : ¬ nI s < 0 := nI_pos (by omega)
      obtain ⟨w1, w2, w3, w4, w5, w6, w7, w8, w9⟩ := tlW_n K V (foA K V t) t
      have et1 : nI t + 1 = nI (t + 1) := nI_a1 t
      by_cases h5 : s < 5
      · have c1 : nI s < 5 := nI_lt (b := 5) h5 (by decide)
        have hfl := fld hok hw htN hw0 hks h5
        have hg := hfl.2.2.1
        -- what a tell of numbers does
        have key : ∃ J, gm_den 58 0 [.ref 11, .int (nI s), .ref 7, .int (nI (t + 1)), .null] [] 128 gm_RF im lm = some (none, 128, gm_RF, J, lm) ∧ Fr [11, 12, 13, 14] im J ∧ cFi J V (foA K V (t + 1)) ∧ (foA K V (t + 1)).la = (foA K V t).la := by
          obtain ⟨⟨f0, f1, f2, f3, f4⟩, fm, fk, fj⟩ := hC
          have n1 : Value.category .null = 1 := rfl
          rcases (by omega : s = 0 ∨ s = 1 ∨ s = 2 ∨ s = 3 ∨ s = 4) with q | q | q | q | q
          · subst q
            have hv := C_valueAt hT h4 (x := t + 1) (by have := hfl.1; have : gNa 0 = 0 := rfl; have : gIn 0 = 1 := rfl; omega)
            have hvi : (Int64.ofNat (V (t + 1))).toInt32 = nI (V (t + 1)) := i64_i32 (by have := hV2 _ (hg 0 (by decide)); have e9 : t + 1 + gNa 0 + 0 = t + 1 := rfl; rw [e9] at this; omega)
            have eA : foA K V (t + 1) = (TA.mk (V (t + 1)) ((tlW K V (foA K V t) t).se) ((tlW K V (foA K V t) t).nm) ((tlW K V (foA K V t) t).nk) ((tlW K V (foA K V t) t).nj) ((tlW K V (foA K V t) t).mi) ((tlW K V (foA K V t) t).ki) ((tlW K V (foA K V t) t).ji) ((tlW K V (foA K V t) t).la) ((tlW K V (foA K V t) t).wk) ((tlW K V (foA K V t) t).wt)) := by rw [e2]; unfold tlT; rw [if_pos hks]
            have z0 : nI 0 = 0 := rfl
            refine ⟨gm_up im 11 0 (nI (V (t + 1))), ?_, Fr.up1 (by decide), ?_, by rw [eA, TA_la, w9]⟩
            · rw [z0]
              simp (decide := true) only [QX5_takeTell, if_true, if_false, hv, hvi, gm_cont_l, not_true_eq_false]
            · rw [eA]
              unfold cFi
              rw [TA_sd, TA_se, TA_nm, TA_nk, TA_nj, TA_mi, TA_ki, TA_ji, w1, w2, w3, w5, w6, w7, w8, gu_eq, gu_nk (by decide), gu_nk (by decide), gu_nk (by decide), gu_nk (by decide), gu_row (by decide), gu_row (by decide), gu_row (by decide)]
              exact ⟨⟨rfl, f1, f2, f3, f4⟩, fm, fk, fj⟩
          · subst q
            have hN : t + 5 < N := by have := hfl.1; have : gNa 1 = 1 := rfl; have : gIn 1 = 4 := rfl; omega
            have eA : foA K V (t + 1) = (TA.mk ((tlW K V (foA K V t) t).sd) ((tlW K V (foA K V t) t).se) ((foA K V t).nm + 1) ((tlW K V (foA K V t) t).nk) ((tlW K V (foA K V t) t).nj) (udN (foA K V t).mi (foA K V t).nm t) ((tlW K V (foA K V t) t).ki) ((tlW K V (foA K V t) t).ji) ((tlW K V (foA K V t) t).la) ((tlW K V (foA K V t) t).wk) ((tlW K V (foA K V t) t).wt)) := by rw [e2]; unfold tlT; rw [if_neg (by omega), if_pos hks]
            have hnm : (foA K V t).nm < 7 := by
              have := hJ1.2.2.2.2.2.2.2.2.2.1
              rw [eA, TA_nm] at this
              omega
            obtain ⟨J, j1, j2, j3, j4, j5, j6⟩ := C_tman_loop (t := t) hT h4 (fun i hi => hV2 _ (by have := hg i hi; have e9 : t + 1 + gNa 1 + i = t + 2 + i := rfl; rw [e9] at this; exact this)) hN hnm f2 4 0 im rfl (Fr.rf _ _) (fun x hx => absurd hx (Nat.not_lt_zero _)) (fun _ _ => rfl)
            refine ⟨J, ?_, j2.mo (by decide), ?_, by rw [eA, TA_la, w9]⟩
            · have c7 : ¬ (7 : Int32) ≤ nI (foA K V t).nm := nI_ge (b := 7) hnm (by decide)
              have z1 : nI 1 = 1 := rfl
              rw [← j1, z1]
              simp (decide := true) only [QX5_takeTell, if_true, if_false, f2, c7, n1, not_true_eq_false, not_false_eq_true]
              rfl
            · rw [eA]
              unfold cFi
              rw [TA_sd, TA_se, TA_nm, TA_nk, TA_nj, TA_mi, TA_ki, TA_ji, w2, w3, w4, w5, w7, w8, j3, j4 0 (by decide), j4 1 (by decide), j4 3 (by decide), j4 4 (by decide), j2 13 (by decide), j2 14 (by decide)]
              refine ⟨⟨f0, f1, rfl, f3, f4⟩, fun a i ha hi => ?_, fk, fj⟩
              unfold udN
              by_cases ea : a = (foA K V t).nm
              · rw [if_pos ea, ea]; exact j5 i hi
              · rw [if_neg ea, j6 _ (by omega)]; exact fm a i (by omega) hi
          · subst q
            have hN : t + 4 < N := by have := hfl.1; have : gNa 2 = 1 := rfl; have : gIn 2 = 3 := rfl; omega
            have eA : foA K V (t + 1) = (TA.mk ((tlW K V (foA K V t) t).sd) ((tlW K V (foA K V t) t).se) ((tlW K V (foA K V t) t).nm) ((foA K V t).nk + 1) ((tlW K V (foA K V t) t).nj) ((tlW K V (foA K V t) t).mi) (udN (foA K V t).ki (foA K V t).nk t) ((tlW K V (foA K V t) t).ji) ((tlW K V (foA K V t) t).la) ((tlW K V (foA K V t) t).wk) ((tlW K V (foA K V t) t).wt)) := by rw [e2]; unfold tlT; rw [if_neg (by omega), if_neg (by omega), if_pos hks]
            have hnk : (foA K V t).nk < 5 := by
              have := hJ1.2.2.2.2.2.2.2.2.2.2.1
              rw [eA, TA_nk] at this
              omega
            obtain ⟨J, j1, j2, j3, j4, j5, j6⟩ := C_tmot_loop (t := t) hT h4 (fun i hi => hV2 _ (by have := hg i hi; have e9 : t + 1 + gNa 2 + i = t + 2 + i := rfl; rw [e9] at this; exact this)) hN hnk f3 3 0 im rfl (Fr.rf _ _) (fun x hx => absurd hx (Nat.not_lt_zero _)) (fun _ _ => rfl)
            refine ⟨J, ?_, j2.mo (by decide), ?_, by rw [eA, TA_la, w9]⟩
            · have c7 : ¬ (5 : Int32) ≤ nI (foA K V t).nk := nI_ge (b := 5) hnk (by decide)
              have z1 : nI 2 = 2 := rfl
              rw [← j1, z1]
              simp (decide := true) only [QX5_takeTell, if_true, if_false, f3, c7, n1, not_true_eq_false, not_false_eq_true]
              rfl
            · rw [eA]
              unfold cFi
              rw [TA_sd, TA_se, TA_nm, TA_nk, TA_nj, TA_mi, TA_ki, TA_ji, w1, w3, w4, w5, w6, w8, j3, j4 0 (by decide), j4 1 (by decide), j4 2 (by decide), j4 4 (by decide), j2 12 (by decide), j2 14 (by decide)]
              refine ⟨⟨f0, f1, f2, rfl, f4⟩, fm, fun a i ha hi => ?_, fj⟩
              unfold udN
              by_cases ea : a = (foA K V t).nk
              · rw [if_pos ea, ea]; exact j5 i hi
              · rw [if_neg ea, j6 _ (by omega)]; exact fk a i (by omega) hi
          · subst q
            have hN : t + 2 < N := by have := hfl.1; have : gNa 3 = 1 := rfl; have : gIn 3 = 1 := rfl; omega
            have eA : foA K V (t + 1) = (TA.mk ((tlW K V (foA K V t) t).sd) ((tlW K V (foA K V t) t).se) ((tlW K V (foA K V t) t).nm) ((tlW K V (foA K V t) t).nk) ((foA K V t).nj + 1) ((tlW K V (foA K V t) t).mi) ((tlW K V (foA K V t) t).ki) (udN (foA K V t).ji (foA K V t).nj t) ((tlW K V (foA K V t) t).la) ((tlW K V (foA K V t) t).wk) ((tlW K V (foA K V t) t).wt)) := by rw [e2]; unfold tlT; rw [if_neg (by omega), if_neg (by omega), if_neg (by omega), if_pos hks]
            have hnj : (foA K V t).nj < 8 := by
              have := hJ1.2.2.2.2.2.2.2.2.2.2.2
              rw [eA, TA_nj] at this
              omega
            have hv := C_valueAt hT h4 (x := t + 2) hN
            have hvi : (Int64.ofNat (V (t + 2))).toInt32 = nI (V (t + 2)) := i64_i32 (by have := hV2 _ (hg 0 (by decide)); have e9 : t + 1 + gNa 3 + 0 = t + 2 := rfl; rw [e9] at this; omega)
            have c8 : ¬ (8 : Int32) ≤ nI (foA K V t).nj := nI_ge (b := 8) hnj (by decide)
            have c9 : gm_in (nI (foA K V t).nj) 8 = true := gm_in_nI hnj (by decide)
            have c10 : (nI (foA K V t).nj).toNatClampNeg = (foA K V t).nj := nI_clamp (by omega)
            have e11 : gm_up im 14 (foA K V t).nj (nI (V (t + 2))) 11 4 = nI (foA K V t).nj := by rw [gu_ne (by decide)]; exact f4
            have z3 : nI 3 = 3 := rfl
            refine ⟨gm_up (gm_up im 14 (foA K V t).nj (nI (V (t + 2)))) 11 4 (nI ((foA K V t).nj + 1)), ?_, (Fr.up1 (by decide)).up (by decide), ?_, by rw [eA, TA_la, w9]⟩
            · rw [z3]
              simp (decide := true) only [QX5_takeTell, if_true, if_false, f4, c8, c9, c10, e11, nI_a1, hv, hvi, gm_cont_l, not_true_eq_false, not_false_eq_true]
            · rw [eA]
              unfold cFi
              rw [TA_sd, TA_se, TA_nm, TA_nk, TA_nj, TA_mi, TA_ki, TA_ji, w1, w2, w4, w5, w6, w7, gu_eq, gu_nk (by decide), gu_nk (by decide), gu_nk (by decide), gu_nk (by decide), gu_row (by decide), gu_row (by decide), gu_row (by decide), gu_row (by decide), gu_row (by decide), gu_row (by decide)]
              refine ⟨⟨f0, f1, f2, f3, rfl⟩, fm, fk, fun a ha => ?_⟩
              unfold udN
              by_cases ea : a = (foA K V t).nj
              · rw [if_pos ea, ea]; exact gu_eq
              · rw [if_neg ea, gu_nk ea]; exact fj a (by omega)
          · subst q
            have hv := C_valueAt hT h4 (x := t + 1) (by have := hfl.1; have : gNa 4 = 0 := rfl; have : gIn 4 = 1 := rfl; omega)
            have hvi : (Int64.ofNat (V (t + 1))).toInt32 = nI (V (t + 1)) := i64_i32 (by have := hV2 _ (hg 0 (by decide)); have e9 : t + 1 + gNa 4 + 0 = t + 1 := rfl; rw [e9] at this; omega)
            have eA : foA K V (t + 1) = (TA.mk ((tlW K V (foA K V t) t).sd) (V (t + 1)) ((tlW K V (foA K V t) t).nm) ((tlW K V (foA K V t) t).nk) ((tlW K V (foA K V t) t).nj) ((tlW K V (foA K V t) t).mi) ((tlW K V (foA K V t) t).ki) ((tlW K V (foA K V t) t).ji) ((tlW K V (foA K V t) t).la) ((tlW K V (foA K V t) t).wk) ((tlW K V (foA K V t) t).wt)) := by rw [e2]; unfold tlT; rw [if_neg (by omega), if_neg (by omega), if_neg (by omega), if_neg (by omega), if_pos hks]
            have z4 : nI 4 = 4 := rfl
            refine ⟨gm_up im 11 1 (nI (V (t + 1))), ?_, Fr.up1 (by decide), ?_, by rw [eA, TA_la, w9]⟩
            · rw [z4]
              simp (decide := true) only [QX5_takeTell, if_true, if_false, hv, hvi, gm_cont_l, not_true_eq_false, not_false_eq_true]
            · rw [eA]
              unfold cFi
              rw [TA_sd, TA_se, TA_nm, TA_nk, TA_nj, TA_mi, TA_ki, TA_ji, w1, w2, w3, w4, w6, w7, w8, gu_eq, gu_nk (by decide), gu_nk (by decide), gu_nk (by decide), gu_nk (by decide), gu_row (by decide), gu_row (by decide), gu_row (by decide)]
              exact ⟨⟨f0, rfl, f2, f3, f4⟩, fm, fk, fj⟩
        obtain ⟨J, j1, j2, j3, j4⟩ := key
        obtain ⟨im', z', i1, i2⟩ := ih (t + 1) J (.int (nI s)) z E (by omega) (hF.tr (j2.mo (by decide))) j3 (cLws_fr hL (j2 15 (by decide)) (j2 16 (by decide)) (j2 17 (by decide)) (j2 18 (by decide)) j4) hz hE (fun y a b => hS y (by omega) b) rfl
        refine ⟨im', z', ?_, i2⟩
        rw [← i1, LX5_fill_34]
        simp (decide := true) only [QX5_fill, hT.1, c, hta, gm_cont_i, if_true, if_false, c0, c1, c3, et1, j1, gm_cont_v]
      · have c1 : ¬ nI s < 5 := nI_nlt (b := 5) (by omega) (by omega)
        have c8 : ¬ (8 : Int32) ≤ nI s := nI_ge (b := 8) hs8 (by decide)
        obtain ⟨k, rfl⟩ : ∃ k, s = 5 + k := ⟨s - 5, by omega⟩
        have hk3 : k < 3 := by omega
        have hks' : K t = 133 + k := by omega
        have c5 : nI (5 + k) - 5 = nI k := by rw [show (5 : Int32) = nI 5 from rfl, nI_sub (by omega), Nat.add_sub_cancel_left]
        have c6 : nI t + 2 = nI (t + 2) := by rw [show (2 : Int32) = nI 2 from rfl, nI_add]
        obtain ⟨g3, gs0, go, hk61, e, he1, he2, he3, he4⟩ := lawE (V := V) hK hV2 hok hw htN hw0 hks' hk3
        obtain ⟨⟨hz6, h15⟩, hini, hrow, hlaw⟩ := hL
        obtain ⟨J, j1, j2, j3, j4, j5, j6, j7⟩ := C_takeL hT h4 hK hV2 hok he1 he2 he3 (fun y a b => he4 y (by omega) b) g3 gs0 go (st := z) (by omega) h15 hk3
        have eA : foA K V (t + 1) = (TA.mk ((tlW K V (foA K V t) t).sd) ((tlW K V (foA K V t) t).se) ((tlW K V (foA K V t) t).nm) ((tlW K V (foA K V t) t).nk) ((tlW K V (foA K V t) t).nj) ((tlW K V (foA K V t) t).mi) ((tlW K V (foA K V t) t).ki) ((tlW K V (foA K V t) t).ji) (udN (foA K V t).la k (t + 2)) ((tlW K V (foA K V t) t).wk) ((tlW K V (foA K V t) t).wt)) := by rw [e2]; unfold tlT; rw [if_neg (by omega), if_neg (by omega), if_neg (by omega), if_neg (by omega), if_neg (by omega), hks', Nat.add_sub_cancel_left]
        obtain ⟨hlf, hlv⟩ := law_end (V := V) (a := t + 2) (x := e - (t + 2)) hK hV2 g3 gs0 go (okT_le hok (by omega)) (fun y hy => he4 _ (by omega) (by omega)) (by rw [show t + 2 + (e - (t + 2)) = e by omega]; exact (hok.2 e he2).2) (by rw [show t + 2 + (e - (t + 2)) = e by omega]; exact he3)
        have hsn : (lwR K V (t + 2) (e - (t + 2) + 1)).sn ≤ e - (t + 2) + 1 := by obtain ⟨-, -, -, -, -, q, -⟩ := hlf; exact q
        have hC' : cFi J V (foA K V (t + 1)) := cFi_fr hC (j6 11 (by decide)) (j6 12 (by decide)) (j6 13 (by decide)) (j6 14 (by decide)) (by rw [eA, TA_sd, w4]) (by rw [eA, TA_se, w5]) (by rw [eA, TA_nm, w1]) (by rw [eA, TA_nk, w2]) (by rw [eA, TA_nj, w3]) (by rw [eA, TA_mi, w6]) (by rw [eA, TA_ki, w7]) (by rw [eA, TA_ji, w8])
        have hL' : cLws J K V N (foA K V (t + 1)).la (z + (lwR K V (t + 2) (e - (t + 2) + 1)).sn) := by
          rw [eA, TA_la]
          refine ⟨⟨by omega, j4⟩, ?_, fun y hy1 hy2 => ?_, fun k' hk' => ?_⟩
          · rw [(j7 0 (by omega)).1, (j7 1 (by omega)).1, (j7 2 (by omega)).1, (j7 3 (by omega)).1, (j7 4 (by omega)).1, (j7 5 (by omega)).1, (j7 0 (by omega)).2, (j7 1 (by omega)).2, (j7 2 (by omega)).2, (j7 3 (by omega)).2, (j7 4 (by omega)).2, (j7 5 (by omega)).2]
            exact hini
          · by_cases hyz : y < z
            · rw [(j7 y hyz).1, (j7 y hyz).2]; exact hrow y hy1 hyz
            · obtain ⟨u, rfl⟩ : ∃ u, y = z + u := ⟨y - z, by omega⟩
              have hu : u < (lwR K V (t + 2) (e - (t + 2) + 1)).sn := by omega
              obtain ⟨r1, r2⟩ := j5 u hu
              obtain ⟨v1, v2, v3, v4⟩ := hlv u hu
              refine ⟨_, ?_, r2, fun h => ?_⟩
              · split
                · rename_i h60; have := v2 h60; omega
                · omega
              · rw [r1] at h
                have h1 : ((lwR K V (t + 2) (e - (t + 2) + 1)).S u).1 = 1 := (nK_eq (by omega) (by decide)).mp h
                rw [if_neg (by omega)]
                exact v3 h1
          · unfold udN
            by_cases ek : k' = k
            · rw [if_pos ek, ek]
              refine Or.inr ⟨e, z, ⟨by omega, he1, he2, he3, fun y a b => he4 y (by omega) b, g3, gs0, go⟩, hz6, j2, j5, Nat.le_refl _⟩
            · rw [if_neg ek, j3 k' ek]
              rcases hlaw k' hk' with hl | ⟨e', st', q1, q2, q3, q4, q5⟩
              · exact Or.inl hl
              · refine Or.inr ⟨e', st', q1, q2, q3, fun x hx => ?_, by omega⟩
                rw [(j7 _ (by omega)).1, (j7 _ (by omega)).2]
                exact q4 x hx
        obtain ⟨im', z', i1, i2⟩ := ih (t + 1) J (.int (nI (5 + k))) _ (e + 1) (by omega) (hF.tr (j6.mo (by decide))) hC' hL' (by omega) (by omega) (fun y a b => by
          unfold tS
          have := he4 (y - 1) (by omega) (by omega)
          have hy0 : ¬ y = 0 := by omega
          simp [hy0, this]) rfl
        refine ⟨im', z', ?_, i2⟩
        rw [← i1, LX5_fill_34]
        simp (decide := true) only [QX5_fill, hT.1, c, hta, gm_cont_i, if_true, if_false, c1, c8, c5, c6, c3, nI_a1, j1, gm_cont_v]
end
