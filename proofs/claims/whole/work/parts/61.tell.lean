/-! what changes: tell, forget, feed, back -/
theorem i2000 (i : Nat) (hi : i < 2000) : gm_in (nI i) 2000 = true ∧ (nI i).toNatClampNeg = i := ⟨gm_in_nI hi (by decide), nI_clamp (by omega)⟩
theorem A_forget : Agr 139 266 [.ref 0, .null] [.ref 84, .null] := by
  intro B lm l nm nk nj ns hI
  obtain ⟨hR, hr, i3, i4, ⟨t, t1, t2, t3, t4⟩, i6, i7, i8⟩ := hI
  have n1 : Value.category .null = 1 := rfl
  let im1 := gm_up B 0 11 0
  let im2 := gm_up im1 84 61 0
  have row : ∀ q, q ≠ 0 → q ≠ 84 → im2 q = B q := fun q a b => by
    show gm_up (gm_up B 0 11 0) 84 61 0 q = _
    rw [gu_row b, gu_row a]
  have r0 : ∀ k, k ≠ 11 → im2 0 k = B 0 k := fun k hk => by
    show gm_up (gm_up B 0 11 0) 84 61 0 0 k = _
    rw [gu_ne (by decide), gu_nk hk]
  have r84 : ∀ k, k ≠ 61 → im2 84 k = B 84 k := fun k hk => by
    show gm_up (gm_up B 0 11 0) 84 61 0 84 k = _
    rw [gu_nk hk, gu_ne (by decide)]
  have e61 : im1 84 61 = nI t := by
    show gm_up B 0 11 0 84 61 = _
    rw [gu_ne (by decide)]; exact t3
  refine ⟨nI t, im1, lm, im2, lm, l, nm, nk, nj, ns, ?_, ?_, ?_⟩
  · simp (decide := true) only [QX11_forget, t2, n1, gm_cat_r, gm_cat_i, if_true]
    rfl
  · simp (decide := true) only [QX12_forget, e61, n1, gm_cat_r, gm_cat_i, if_true]
    rfl
  · refine ⟨iRoll_eq (fun q hq => row q (by omega) (by omega)) (r84 18 (by decide)) hR, ?_, ?_, ?_, ?_, ?_, ?_, i8⟩
    · rw [row 22 (by decide) (by decide), row 116 (by decide) (by decide)]; exact hr
    · exact pastR_eq i3 (by rw [row 23 (by decide) (by decide)]) (by rw [row 23 (by decide) (by decide)]) (r84 54 (by decide)) (row 120 (by decide) (by decide)) (fun x hx => row _ (by omega) (by omega))
    · exact slotR_eq i4 (by rw [row 23 (by decide) (by decide)]) (row 126 (by decide) (by decide)) (row 127 (by decide) (by decide)) (fun s hs => row _ (by omega) (by omega))
    · refine ⟨0, by decide, ?_, gu_eq, fun i hi => absurd hi (Nat.not_lt_zero _)⟩
      show gm_up (gm_up B 0 11 0) 84 61 0 0 11 = _
      rw [gu_ne (by decide)]; exact gu_eq
    · exact tapeR_eq i6 (r0 1 (by decide)) (r84 2 (by decide)) (row 1 (by decide) (by decide)) (row 85 (by decide) (by decide))
    · rw [r0 2 (by decide), r84 17 (by decide)]; exact i7
theorem A_tell (a s : Int32) : Agr 138 265 [.ref 0, .int a, .int s] [.ref 84, .int a, .int s] := by
  intro B lm l nm nk nj ns hI
  have hI0 := hI
  obtain ⟨hR, hr, i3, i4, ⟨t, t1, t2, t3, t4⟩, i6, i7, i8⟩ := hI
  have hm7 := iR_nm hR
  have ho := Off.rf B
  by_cases h20 : t = 20
  · subst h20
    have t2' : B 0 11 = 20 := t2
    have t3' : B 84 61 = 20 := t3
    refine agr_no hI0 (-1) ?_ ⟨B, ?_, ho⟩
    · simp (decide := true) only [QX11_tell, t2', if_true, if_false]
    · simp (decide := true) only [QX12_tell, t3', if_true, if_false]
  · have hlt : ¬ (20 : Int32) ≤ nI t := nI_ge (b := 20) (by omega) (by decide)
    have hlt' : nI t < (20 : Int32) := nI_lt (b := 20) (by omega) (by decide)
    have hne : ¬ nI t = 20 := fun e => h20 (nI_inj (by omega) (by decide) e)
    cases hg : okI nm a with
    | false =>
      refine agr_no hI0 (-1) ?_ ⟨B, ?_, ho⟩
      · simp (decide := true) only [QX11_tell, t2, hlt, hlt', Cg_man hR ho, hg, b32_f, gm_cont_i, if_true, if_false]
      · simp (decide := true) only [QX12_tell, t3, hne, Mg_man hR ho, hg, b32_f, gm_cont_i, if_true, if_false]
    | true =>
      cases hg2 : okI 100 s with
      | false =>
        refine agr_no hI0 (-1) ?_ ⟨B, ?_, ho⟩
        · rcases okI_f hg2 with h | ⟨h, h2⟩
          · simp (decide := true) only [QX11_tell, t2, hlt, hlt', Cg_man hR ho, hg, b32_t, gm_cont_i, if_true, if_false, h]
          · have h3 : ¬ s ≤ 99 := fun hh => by
              have := (okI_le (n := 100) (by decide) s).mp ⟨Int32.not_lt.mp h, hh⟩
              rw [hg2] at this; cases this
            simp (decide := true) only [QX11_tell, t2, hlt, hlt', Cg_man hR ho, hg, b32_t, gm_cont_i, if_true, if_false, h, h3]
        · simp (decide := true) only [QX12_tell, t3, hne, Mg_man hR ho, Mg_99, hg, hg2, b32_f, b32_t, gm_cont_i, if_true, if_false]
      | true =>
        have hs := (okI_le (n := 100) (by decide) s).mpr hg2
        have hs1 : ¬ s < 0 := Int32.not_lt.mpr hs.1
        have hs2 : s ≤ 99 := hs.2
        have hs2' : ¬ 99 < s := Int32.not_lt.mpr hs2
        have i20 : gm_in (nI t) 20 = true ∧ (nI t).toNatClampNeg = t := ⟨gm_in_nI (by omega) (by decide), nI_clamp (by omega)⟩
        let im1 := gm_up (gm_up (gm_up B 82 t a) 83 t s) 0 11 (nI (t + 1))
        let im2 := gm_up (gm_up (gm_up im1 123 t a) 124 t s) 84 61 (nI (t + 1))
        have row1 : ∀ q, q ≠ 0 → q ≠ 82 → q ≠ 83 → im1 q = B q := fun q a1 a2 a3 => by
          show gm_up (gm_up (gm_up B 82 t a) 83 t s) 0 11 (nI (t + 1)) q = _
          rw [gu_row a1, gu_row a3, gu_row a2]
        have row2 : ∀ q, q ≠ 84 → q ≠ 123 → q ≠ 124 → im2 q = im1 q := fun q a1 a2 a3 => by
          show gm_up (gm_up (gm_up im1 123 t a) 124 t s) 84 61 (nI (t + 1)) q = _
          rw [gu_row a1, gu_row a3, gu_row a2]
        have row : ∀ q, q ≠ 0 → q ≠ 84 → q ≠ 82 → q ≠ 83 → q ≠ 123 → q ≠ 124 → im2 q = B q := fun q a1 a2 a3 a4 a5 a6 => by rw [row2 q a2 a5 a6, row1 q a1 a3 a4]
        have r0 : ∀ k, k ≠ 11 → im2 0 k = B 0 k := fun k hk => by
          rw [row2 0 (by decide) (by decide) (by decide)]
          show gm_up (gm_up (gm_up B 82 t a) 83 t s) 0 11 (nI (t + 1)) 0 k = _
          rw [gu_nk hk, gu_ne (by decide), gu_ne (by decide)]
        have r84 : ∀ k, k ≠ 61 → im2 84 k = B 84 k := fun k hk => by
          show gm_up (gm_up (gm_up im1 123 t a) 124 t s) 84 61 (nI (t + 1)) 84 k = _
          rw [gu_nk hk, gu_ne (by decide), gu_ne (by decide), row1 84 (by decide) (by decide) (by decide)]
        have e61 : im1 84 61 = nI t := by rw [row1 84 (by decide) (by decide) (by decide)]; exact t3
        have ev : nI t + 1 - 1 = nI t := by rw [nI_a1, nI_m1 (by omega)]; rfl
        refine ⟨nI t, im1, lm, im2, lm, l, nm, nk, nj, ns, ?_, ?_, ?_⟩
        · have x1 : gm_up B 82 t a 0 11 = nI t := by rw [gu_ne (by decide)]; exact t2
          have x2 : gm_up (gm_up B 82 t a) 83 t s 0 11 = nI t := by rw [gu_ne (by decide)]; exact x1
          simp (decide := true) only [QX11_tell, t2, hlt, hlt', Cg_man hR ho, hg, b32_t, gm_cont_i, if_true, if_false, hs1, hs2, hs2', i20, x1, x2, gm_cat_r, gu_eq, ev]
          rw [nI_a1]
        · have ho1 : iRoll im1 l nm nk nj ns := iRoll_eq (fun q hq => row1 q (by omega) (by omega) (by omega)) (by rw [row1 84 (by decide) (by decide) (by decide)]) hR
          have x1 : gm_up im1 123 t a 84 61 = nI t := by rw [gu_ne (by decide)]; exact e61
          have x2 : gm_up (gm_up im1 123 t a) 124 t s 84 61 = nI t := by rw [gu_ne (by decide)]; exact x1
          simp (decide := true) only [QX12_tell, e61, hne, Mg_man ho1 (Off.rf im1), Mg_99, hg, hg2, b32_t, gm_cont_i, if_true, if_false, i20, x1, x2, gm_cat_r, gu_eq, ev]
          rw [nI_a1]
        · refine ⟨iRoll_eq (fun q hq => row q (by omega) (by omega) (by omega) (by omega) (by omega) (by omega)) (r84 18 (by decide)) hR, ?_, ?_, ?_, ?_, ?_, ?_, i8⟩
          · rw [row 22 (by decide) (by decide) (by decide) (by decide) (by decide) (by decide), row 116 (by decide) (by decide) (by decide) (by decide) (by decide) (by decide)]; exact hr
          · have e23 := row 23 (by decide) (by decide) (by decide) (by decide) (by decide) (by decide)
            exact pastR_eq i3 (by rw [e23]) (by rw [e23]) (r84 54 (by decide)) (row 120 (by decide) (by decide) (by decide) (by decide) (by decide) (by decide)) (fun x hx => row _ (by omega) (by omega) (by omega) (by omega) (by omega) (by omega))
          · exact slotR_eq i4 (by rw [row 23 (by decide) (by decide) (by decide) (by decide) (by decide) (by decide)]) (row 126 (by decide) (by decide) (by decide) (by decide) (by decide) (by decide)) (row 127 (by decide) (by decide) (by decide) (by decide) (by decide) (by decide)) (fun s hs => row _ (by omega) (by omega) (by omega) (by omega) (by omega) (by omega))
          · refine ⟨t + 1, by omega, ?_, gu_eq, fun i hi => ?_⟩
            · rw [row2 0 (by decide) (by decide) (by decide)]; exact gu_eq
            · have c82 : im2 82 i = if i = t then a else B 82 i := by
                rw [row2 82 (by decide) (by decide) (by decide)]
                show gm_up (gm_up (gm_up B 82 t a) 83 t s) 0 11 (nI (t + 1)) 82 i = _
                rw [gu_ne (by decide), gu_ne (by decide)]
                by_cases e : i = t
                · subst e; rw [gu_eq, if_pos rfl]
                · rw [gu_nk e, if_neg e]
              have c83 : im2 83 i = if i = t then s else B 83 i := by
                rw [row2 83 (by decide) (by decide) (by decide)]
                show gm_up (gm_up (gm_up B 82 t a) 83 t s) 0 11 (nI (t + 1)) 83 i = _
                rw [gu_ne (by decide)]
                by_cases e : i = t
                · subst e; rw [gu_eq, if_pos rfl]
                · rw [gu_nk e, if_neg e, gu_ne (by decide)]
              have c123 : im2 123 i = if i = t then a else B 123 i := by
                show gm_up (gm_up (gm_up im1 123 t a) 124 t s) 84 61 (nI (t + 1)) 123 i = _
                rw [gu_ne (by decide), gu_ne (by decide)]
                by_cases e : i = t
                · subst e; rw [gu_eq, if_pos rfl]
                · rw [gu_nk e, if_neg e, row1 123 (by decide) (by decide) (by decide)]
              have c124 : im2 124 i = if i = t then s else B 124 i := by
                show gm_up (gm_up (gm_up im1 123 t a) 124 t s) 84 61 (nI (t + 1)) 124 i = _
                rw [gu_ne (by decide)]
                by_cases e : i = t
                · subst e; rw [gu_eq, if_pos rfl]
                · rw [gu_nk e, if_neg e, gu_ne (by decide), row1 124 (by decide) (by decide) (by decide)]
              rw [c82, c83, c123, c124]
              by_cases e : i = t
              · rw [if_pos e, if_pos e, if_pos e, if_pos e]; exact ⟨rfl, rfl⟩
              · rw [if_neg e, if_neg e, if_neg e, if_neg e]; exact t4 i (by omega)
          · exact tapeR_eq i6 (r0 1 (by decide)) (r84 2 (by decide)) (row 1 (by decide) (by decide) (by decide) (by decide) (by decide) (by decide)) (row 85 (by decide) (by decide) (by decide) (by decide) (by decide) (by decide))
          · rw [r0 2 (by decide), r84 17 (by decide)]; exact i7
theorem A_back (a : Int32) : Agr 110 167 [.ref 0, .int a] [.ref 84, .int a] := by
  intro B lm l nm nk nj ns hI
  have hI0 := hI
  obtain ⟨hR, hr, i3, i4, i5, ⟨k, k1, k2, k3, k4⟩, i7, i8⟩ := hI
  have ho := Off.rf B
  rcases rngS k (by omega) a with ⟨u, hu, rfl⟩ | h
  · have h0 : ¬ nI u < 0 := (okI_tt (okI_n (n := k + 1) (by omega) (show u < k + 1 by omega))).1
    have hle : nI u ≤ nI k := nI_le hu (by omega)
    have hle' : ¬ nI k < nI u := Int32.not_lt.mpr hle
    have ev : nI k - nI u = nI (k - u) := nI_sub hu
    let im1 := gm_up B 0 1 (nI (k - u))
    let im2 := gm_up im1 84 2 (nI (k - u))
    have row : ∀ q, q ≠ 0 → q ≠ 84 → im2 q = B q := fun q a b => by
      show gm_up (gm_up B 0 1 _) 84 2 _ q = _
      rw [gu_row b, gu_row a]
    have r0 : ∀ k, k ≠ 1 → im2 0 k = B 0 k := fun k hk => by
      show gm_up (gm_up B 0 1 _) 84 2 _ 0 k = _
      rw [gu_ne (by decide), gu_nk hk]
    have r84 : ∀ k, k ≠ 2 → im2 84 k = B 84 k := fun k hk => by
      show gm_up (gm_up B 0 1 _) 84 2 _ 84 k = _
      rw [gu_nk hk, gu_ne (by decide)]
    have e2 : im1 84 2 = nI k := by
      show gm_up B 0 1 _ 84 2 = _
      rw [gu_ne (by decide)]; exact k3
    refine ⟨nI (k - u), im1, lm, im2, lm, l, nm, nk, nj, ns, ?_, ?_, ?_⟩
    · simp (decide := true) only [QX11_back, h0, k2, hle, hle', gm_cat_r, gm_cat_i, if_true, if_false, ev, gu_eq]
      rfl
    · simp (decide := true) only [QX12_back, h0, e2, hle, hle', gm_cat_r, gm_cat_i, if_true, if_false, ev, gu_eq]
      rfl
    · refine ⟨iRoll_eq (fun q hq => row q (by omega) (by omega)) (r84 18 (by decide)) hR, ?_, ?_, ?_, ?_, ?_, ?_, i8⟩
      · rw [row 22 (by decide) (by decide), row 116 (by decide) (by decide)]; exact hr
      · exact pastR_eq i3 (by rw [row 23 (by decide) (by decide)]) (by rw [row 23 (by decide) (by decide)]) (r84 54 (by decide)) (row 120 (by decide) (by decide)) (fun x hx => row _ (by omega) (by omega))
      · exact slotR_eq i4 (by rw [row 23 (by decide) (by decide)]) (row 126 (by decide) (by decide)) (row 127 (by decide) (by decide)) (fun s hs => row _ (by omega) (by omega))
      · exact toldR_eq i5 (r0 11 (by decide)) (r84 61 (by decide)) (row 82 (by decide) (by decide)) (row 83 (by decide) (by decide)) (row 123 (by decide) (by decide)) (row 124 (by decide) (by decide))
      · refine ⟨k - u, by omega, ?_, gu_eq, fun i hi => ?_⟩
        · show gm_up (gm_up B 0 1 _) 84 2 _ 0 1 = _
          rw [gu_ne (by decide)]; exact gu_eq
        · rw [row 85 (by decide) (by decide), row 1 (by decide) (by decide)]; exact k4 i (by omega)
      · rw [r0 2 (by decide), r84 17 (by decide)]; exact i7
  · have hk : (nI k).toInt = k := nI_toInt (by omega)
    by_cases h0 : a < 0
    · refine agr_no hI0 (-1) ?_ ⟨B, ?_, ho⟩
      · simp (decide := true) only [QX11_back, h0, if_true, if_false]
      · simp (decide := true) only [QX12_back, h0, if_true, if_false]
    · have hle : ¬ a ≤ nI k := fun hh => by
        have h1 := Int32.le_iff_toInt_le.mp hh
        have h2 : ¬ a.toInt < 0 := fun e => h0 (Int32.lt_iff_toInt_lt.mpr e)
        have h3 : (0 : Int32).toInt = 0 := rfl
        omega
      have hle' : nI k < a := Int32.not_le.mp hle
      refine agr_no hI0 (-1) ?_ ⟨B, ?_, ho⟩
      · simp (decide := true) only [QX11_back, h0, k2, hle, hle', if_true, if_false]
      · simp (decide := true) only [QX12_back, h0, k3, hle, hle', if_true, if_false]
def pbs (j : Nat) : Int32 := if j = 0 then 24 else if j = 1 then 16 else if j = 2 then 8 else 0
def pbv (w : Int32) (j : Nat) : Int32 := (w >>> (pbs j &&& 31)).toInt8.toInt32.toInt8.toInt32
theorem C_pb_step (w : Int32) {j k : Nat} (hj : j < 4) (hk : k < 2000) {im : gm_I} (lm : gm_L) (h1 : im 0 1 = nI k) : gm_den 145 3 [.ref 0, .int w, .int (pbs j)] [] 128 gm_RF im lm = gm_den 145 3 [.ref 0, .int w, .int (pbs j + -8)] [] 128 gm_RF (gm_up (gm_up im 1 k (pbv w j)) 0 1 (nI (k + 1))) lm := by
  have hlt : ¬ (2000 : Int32) ≤ nI k := nI_ge (b := 2000) (by omega) (by decide)
  have hlt' : nI k < (2000 : Int32) := nI_lt (b := 2000) (by omega) (by decide)
  have h0 : ¬ pbs j < 0 := by
    rcases (by omega : j = 0 ∨ j = 1 ∨ j = 2 ∨ j = 3) with rfl | rfl | rfl | rfl <;> decide
  have x1 : gm_up im 1 k (pbv w j) 0 1 = nI k := by rw [gu_ne (by decide)]; exact h1
  rw [LX11_putBytes_3]
  simp only [QX11_putBytes, h0, if_false, h1, hlt, hlt', i2000 k hk, if_true]
  rw [show (w >>> (pbs j &&& 31)).toInt8.toInt32.toInt8.toInt32 = pbv w j from rfl]
  simp only [QX11_putBytes, x1, nI_a1, gm_cat_r, if_true]
theorem M_pb_step (w : Int32) {j k : Nat} (hj : j < 4) (hk : k < 2000) {im : gm_I} (lm : gm_L) (h1 : im 84 2 = nI k) : gm_den 166 3 [.ref 84, .int w, .int (pbs j)] [] 128 gm_RF im lm = gm_den 166 3 [.ref 84, .int w, .int (pbs j + -8)] [] 128 gm_RF (gm_up (gm_up im 85 k (pbv w j)) 84 2 (nI (k + 1))) lm := by
  have h0 : ¬ pbs j < 0 := by
    rcases (by omega : j = 0 ∨ j = 1 ∨ j = 2 ∨ j = 3) with rfl | rfl | rfl | rfl <;> decide
  have x1 : gm_up im 85 k (pbv w j) 84 2 = nI k := by rw [gu_ne (by decide)]; exact h1
  rw [LX12_put_3]
  simp only [QX12_put, h0, if_false, h1, i2000 k hk, if_true]
  rw [show (w >>> (pbs j &&& 31)).toInt8.toInt32.toInt8.toInt32 = pbv w j from rfl]
  simp only [QX12_put, x1, nI_a1, gm_cat_r, if_true]
def pbP (o f t k n : Nat) (g : Nat → Int32) (im im' : gm_I) : Prop := im' o f = nI (k + n) ∧ (∀ j, j ≠ f → im' o j = im o j) ∧ (∀ q, q ≠ o → q ≠ t → im' q = im q) ∧ ∀ i, im' t i = if k ≤ i ∧ i < k + n then g (i - k) else im t i
theorem pbP.st {o f t k : Nat} (hot : o ≠ t) (v : Int32) (im : gm_I) : pbP o f t k 1 (fun _ => v) im (gm_up (gm_up im t k v) o f (nI (k + 1))) := by
  refine ⟨gu_eq, fun j hj => by rw [gu_nk hj, gu_ne hot], fun q a b => by rw [gu_row a, gu_row b], fun i => ?_⟩
  rw [gu_ne (Ne.symm hot)]
  by_cases e : i = k
  · subst e; rw [gu_eq, if_pos (by omega)]
  · rw [gu_nk e, if_neg (by omega)]
theorem pbP.tr {o f t k n n' : Nat} {g g' : Nat → Int32} {a b c : gm_I} (h : pbP o f t k n g a b) (h' : pbP o f t (k + n) n' g' b c) : pbP o f t k (n + n') (fun i => if i < n then g i else g' (i - n)) a c := by
  obtain ⟨a1, a2, a3, a4⟩ := h
  obtain ⟨b1, b2, b3, b4⟩ := h'
  refine ⟨by rw [b1, Nat.add_assoc], fun j hj => (b2 j hj).trans (a2 j hj), fun q x y => (b3 q x y).trans (a3 q x y), fun i => ?_⟩
  rw [b4 i, a4 i]
  by_cases c1 : k ≤ i ∧ i < k + n
  · rw [if_neg (by omega), if_pos c1, if_pos (by omega)]; exact (if_pos (by omega)).symm
  · by_cases c2 : k + n ≤ i ∧ i < k + n + n'
    · rw [if_pos c2, if_pos (by omega)]; refine Eq.trans ?_ (if_neg (by omega)).symm
      congr 1; omega
    · rw [if_neg c2, if_neg c1, if_neg (by omega)]
theorem pbP.im {o f t k n : Nat} {g g' : Nat → Int32} {a b : gm_I} (h : pbP o f t k n g a b) (hg : ∀ i, i < n → g i = g' i) : pbP o f t k n g' a b := by
  obtain ⟨a1, a2, a3, a4⟩ := h
  refine ⟨a1, a2, a3, fun i => ?_⟩
  rw [a4 i]
  by_cases c1 : k ≤ i ∧ i < k + n
  · rw [if_pos c1, if_pos c1, hg _ (by omega)]
  · rw [if_neg c1, if_neg c1]
theorem pbP.four {o f t k : Nat} {a b c d e : gm_I} {w : Int32} (h0 : pbP o f t k 1 (fun _ => pbv w 0) a b) (h1 : pbP o f t (k + 1) 1 (fun _ => pbv w 1) b c) (h2 : pbP o f t (k + 2) 1 (fun _ => pbv w 2) c d) (h3 : pbP o f t (k + 3) 1 (fun _ => pbv w 3) d e) : pbP o f t k 4 (pbv w) a e := by
  refine (((h0.tr h1).tr h2).tr h3).im (fun i hi => ?_)
  rcases (by omega : i = 0 ∨ i = 1 ∨ i = 2 ∨ i = 3) with rfl | rfl | rfl | rfl <;> rfl
theorem C_put (w : Int32) {k : Nat} (hk : k + 4 ≤ 2000) {im : gm_I} (lm : gm_L) (h1 : im 0 1 = nI k) : ∃ im', gm_den 145 0 [.ref 0, .int w, .null] [] 128 gm_RF im lm = some (none, 128, gm_RF, im', lm) ∧ pbP 0 1 1 k 4 (pbv w) im im' := by
  have n1 : Value.category .null = 1 := rfl
  let i1 := gm_up (gm_up im 1 k (pbv w 0)) 0 1 (nI (k + 1))
  let i2 := gm_up (gm_up i1 1 (k + 1) (pbv w 1)) 0 1 (nI (k + 1 + 1))
  let i3 := gm_up (gm_up i2 1 (k + 2) (pbv w 2)) 0 1 (nI (k + 2 + 1))
  let i4 := gm_up (gm_up i3 1 (k + 3) (pbv w 3)) 0 1 (nI (k + 3 + 1))
  have s0 := C_pb_step w (j := 0) (by decide) (show k < 2000 by omega) lm h1
  have s1 := C_pb_step w (j := 1) (by decide) (show k + 1 < 2000 by omega) lm (im := i1) gu_eq
  have s2 := C_pb_step w (j := 2) (by decide) (show k + 2 < 2000 by omega) lm (im := i2) gu_eq
  have s3 := C_pb_step w (j := 3) (by decide) (show k + 3 < 2000 by omega) lm (im := i3) gu_eq
  refine ⟨i4, ?_, pbP.four (pbP.st (by decide) _ _) (pbP.st (by decide) _ _) (pbP.st (by decide) _ _) (pbP.st (by decide) _ _)⟩
  have e0 : gm_den 145 0 [.ref 0, .int w, .null] [] 128 gm_RF im lm = gm_den 145 3 [.ref 0, .int w, .int (pbs 0)] [] 128 gm_RF im lm := by
    simp only [QX11_putBytes]; rfl
  have e4 : ∀ im' : gm_I, gm_den 145 3 [.ref 0, .int w, .int (pbs 3 + -8)] [] 128 gm_RF im' lm = some (none, 128, gm_RF, im', lm) := fun im' => by
    rw [LX11_putBytes_3]; simp (decide := true) only [QX11_putBytes, if_true]
  exact e0.trans (s0.trans (s1.trans (s2.trans (s3.trans (e4 i4)))))
theorem M_put (w : Int32) {k : Nat} (hk : k + 4 ≤ 2000) {im : gm_I} (lm : gm_L) (h1 : im 84 2 = nI k) : ∃ im', gm_den 166 0 [.ref 84, .int w, .null] [] 128 gm_RF im lm = some (none, 128, gm_RF, im', lm) ∧ pbP 84 2 85 k 4 (pbv w) im im' := by
  have n1 : Value.category .null = 1 := rfl
  let i1 := gm_up (gm_up im 85 k (pbv w 0)) 84 2 (nI (k + 1))
  let i2 := gm_up (gm_up i1 85 (k + 1) (pbv w 1)) 84 2 (nI (k + 1 + 1))
  let i3 := gm_up (gm_up i2 85 (k + 2) (pbv w 2)) 84 2 (nI (k + 2 + 1))
  let i4 := gm_up (gm_up i3 85 (k + 3) (pbv w 3)) 84 2 (nI (k + 3 + 1))
  have s0 := M_pb_step w (j := 0) (by decide) (show k < 2000 by omega) lm h1
  have s1 := M_pb_step w (j := 1) (by decide) (show k + 1 < 2000 by omega) lm (im := i1) gu_eq
  have s2 := M_pb_step w (j := 2) (by decide) (show k + 2 < 2000 by omega) lm (im := i2) gu_eq
  have s3 := M_pb_step w (j := 3) (by decide) (show k + 3 < 2000 by omega) lm (im := i3) gu_eq
  refine ⟨i4, ?_, pbP.four (pbP.st (by decide) _ _) (pbP.st (by decide) _ _) (pbP.st (by decide) _ _) (pbP.st (by decide) _ _)⟩
  have e0 : gm_den 166 0 [.ref 84, .int w, .null] [] 128 gm_RF im lm = gm_den 166 3 [.ref 84, .int w, .int (pbs 0)] [] 128 gm_RF im lm := by
    simp only [QX12_put]; rfl
  have e4 : ∀ im' : gm_I, gm_den 166 3 [.ref 84, .int w, .int (pbs 3 + -8)] [] 128 gm_RF im' lm = some (none, 128, gm_RF, im', lm) := fun im' => by
    rw [LX12_put_3]; simp (decide := true) only [QX12_put, if_true]
  exact e0.trans (s0.trans (s1.trans (s2.trans (s3.trans (e4 i4)))))
theorem byte_rng (y : Int8) : ∃ b, b < 256 ∧ y = (nI b).toInt8 := by
  refine ⟨y.toBitVec.toNat, y.toBitVec.isLt, ?_⟩
  apply Int8.toBitVec_inj.mp
  show y.toBitVec = ((nI y.toBitVec.toNat).toBitVec.signExtend 8)
  apply BitVec.eq_of_toNat_eq
  rw [BitVec.signExtend_eq_setWidth_of_le _ (by decide), BitVec.toNat_setWidth]
  show _ = (BitVec.ofNat 32 y.toBitVec.toNat).toNat % 2 ^ 8
  rw [BitVec.toNat_ofNat]
  have := y.toBitVec.isLt
  omega
theorem pbv_rng (w : Int32) (j : Nat) : ∃ b, b < 256 ∧ pbv w j = (nI b).toInt8.toInt32 := by
  obtain ⟨b, hb, e⟩ := byte_rng (w >>> (pbs j &&& 31)).toInt8.toInt32.toInt8
  exact ⟨b, hb, by unfold pbv; rw [e]⟩
def pb5 (a b c d e : Int32) (i : Nat) : Int32 := if i < 16 then (if i < 12 then (if i < 8 then (if i < 4 then pbv a i else pbv b (i - 4)) else pbv c (i - 8)) else pbv d (i - 12)) else pbv e (i - 16)
theorem pb5_rng (a b c d e : Int32) (i : Nat) : ∃ x, x < 256 ∧ pb5 a b c d e i = (nI x).toInt8.toInt32 := by
  unfold pb5
  split
  · split
    · split
      · split <;> exact pbv_rng _ _
      · exact pbv_rng _ _
    · exact pbv_rng _ _
  · exact pbv_rng _ _
theorem C_feed5 (a b c d e : Int32) {k : Nat} (hk : k + 20 ≤ 2000) {im : gm_I} (lm : gm_L) (h1 : im 0 1 = nI k) : ∃ im', gm_den 109 0 [.ref 0, .int a, .int b, .int c, .int d, .int e] [] 128 gm_RF im lm = some (some (.int (nI (k + 20))), 128, gm_RF, im', lm) ∧ pbP 0 1 1 k 20 (pb5 a b c d e) im im' := by
  have n1 : Value.category .null = 1 := rfl
  obtain ⟨j1, c1, p1⟩ := C_put a (k := k) (by omega) lm h1
  obtain ⟨j2, c2, p2⟩ := C_put b (k := k + 4) (by omega) lm p1.1
  obtain ⟨j3, c3, p3⟩ := C_put c (k := k + 8) (by omega) lm p2.1
  obtain ⟨j4, c4, p4⟩ := C_put d (k := k + 12) (by omega) lm p3.1
  obtain ⟨j5, c5, p5⟩ := C_put e (k := k + 16) (by omega) lm p4.1
  have hle : nI k + 20 ≤ 2000 := by
    rw [show (20 : Int32) = nI 20 from rfl, nI_add]; exact nI_le (b := 2000) hk (by decide)
  have hle' : ¬ (2000 : Int32) < nI k + 20 := Int32.not_lt.mpr hle
  have h5 : j5 0 1 = nI (k + 20) := p5.1
  refine ⟨j5, ?_, (((p1.tr p2).tr p3).tr p4).tr p5⟩
  simp (decide := true) only [QX11_feed, h1, hle, hle', if_true, if_false, c1, c2, c3, c4, c5, gm_cont_v, h5]
theorem M_feed5 (a b c d e : Int32) {k : Nat} (hk : k + 20 ≤ 2000) {im : gm_I} (lm : gm_L) (h1 : im 84 2 = nI k) : ∃ im', gm_den 165 0 [.ref 84, .int a, .int b, .int c, .int d, .int e] [] 128 gm_RF im lm = some (some (.int (nI (k + 20))), 128, gm_RF, im', lm) ∧ pbP 84 2 85 k 20 (pb5 a b c d e) im im' := by
  have n1 : Value.category .null = 1 := rfl
  obtain ⟨j1, c1, p1⟩ := M_put a (k := k) (by omega) lm h1
  obtain ⟨j2, c2, p2⟩ := M_put b (k := k + 4) (by omega) lm p1.1
  obtain ⟨j3, c3, p3⟩ := M_put c (k := k + 8) (by omega) lm p2.1
  obtain ⟨j4, c4, p4⟩ := M_put d (k := k + 12) (by omega) lm p3.1
  obtain ⟨j5, c5, p5⟩ := M_put e (k := k + 16) (by omega) lm p4.1
  have hle : nI k + 20 ≤ 2000 := by
    rw [show (20 : Int32) = nI 20 from rfl, nI_add]; exact nI_le (b := 2000) hk (by decide)
  have hle' : ¬ (2000 : Int32) < nI k + 20 := Int32.not_lt.mpr hle
  have h5 : j5 84 2 = nI (k + 20) := p5.1
  refine ⟨j5, ?_, (((p1.tr p2).tr p3).tr p4).tr p5⟩
  simp (decide := true) only [QX12_feed, h1, hle, hle', if_true, if_false, c1, c2, c3, c4, c5, gm_cont_v, h5]
theorem A_feed (a b c d e : Int32) : Agr 109 165 [.ref 0, .int a, .int b, .int c, .int d, .int e] [.ref 84, .int a, .int b, .int c, .int d, .int e] := by
  intro B lm l nm nk nj ns hI
  have hI0 := hI
  obtain ⟨hR, hr, i3, i4, i5, ⟨k, k1, k2, k3, k4⟩, i7, i8⟩ := hI
  by_cases hk : k + 20 ≤ 2000
  · obtain ⟨im1, c1, ⟨p1, p2, p3, p4⟩⟩ := C_feed5 a b c d e hk lm k2
    have e84 : im1 84 = B 84 := p3 84 (by decide) (by decide)
    obtain ⟨im2, c2, ⟨q1, q2, q3, q4⟩⟩ := M_feed5 a b c d e hk (im := im1) lm (by rw [e84]; exact k3)
    have row : ∀ q, q ≠ 0 → q ≠ 1 → q ≠ 84 → q ≠ 85 → im2 q = B q := fun q x y z u => (q3 q z u).trans (p3 q x y)
    have r84 : ∀ k, k ≠ 2 → im2 84 k = B 84 k := fun k hk => by rw [q2 k hk, e84]
    have r0 : ∀ k, k ≠ 1 → im2 0 k = B 0 k := fun k hk => by rw [q3 0 (by decide) (by decide), p2 k hk]
    refine ⟨_, im1, lm, im2, lm, l, nm, nk, nj, ns, c1, c2, iRoll_eq (fun q hq => row q (by omega) (by omega) (by omega) (by omega)) (r84 18 (by decide)) hR, ?_, ?_, ?_, ?_, ?_, ?_, i8⟩
    · rw [row 22 (by decide) (by decide) (by decide) (by decide), row 116 (by decide) (by decide) (by decide) (by decide)]; exact hr
    · have e23 := row 23 (by decide) (by decide) (by decide) (by decide)
      exact pastR_eq i3 (by rw [e23]) (by rw [e23]) (r84 54 (by decide)) (row 120 (by decide) (by decide) (by decide) (by decide)) (fun x hx => row _ (by omega) (by omega) (by omega) (by omega))
    · exact slotR_eq i4 (by rw [row 23 (by decide) (by decide) (by decide) (by decide)]) (row 126 (by decide) (by decide) (by decide) (by decide)) (row 127 (by decide) (by decide) (by decide) (by decide)) (fun s hs => row _ (by omega) (by omega) (by omega) (by omega))
    · exact toldR_eq i5 (r0 11 (by decide)) (r84 61 (by decide)) (row 82 (by decide) (by decide) (by decide) (by decide)) (row 83 (by decide) (by decide) (by decide) (by decide)) (row 123 (by decide) (by decide) (by decide) (by decide)) (row 124 (by decide) (by decide) (by decide) (by decide))
    · refine ⟨k + 20, hk, by rw [q3 0 (by decide) (by decide)]; exact p1, q1, fun i hi => ?_⟩
      have e1 : im2 1 i = im1 1 i := by rw [q3 1 (by decide) (by decide)]
      have e85 : im1 85 i = B 85 i := by rw [p3 85 (by decide) (by decide)]
      rw [e1, q4 i, p4 i, e85]
      by_cases c : k ≤ i ∧ i < k + 20
      · rw [if_pos c, if_pos c]; exact ⟨rfl, pb5_rng _ _ _ _ _ _⟩
      · rw [if_neg c, if_neg c]; exact k4 i (by omega)
    · rw [r0 2 (by decide), r84 17 (by decide)]; exact i7
  · have hle : ¬ nI k + 20 ≤ 2000 := by
      rw [show (20 : Int32) = nI 20 from rfl, nI_add]; exact nI_ge (a := 2000) (by omega) (by omega)
    have hle' : (2000 : Int32) < nI k + 20 := Int32.not_le.mp hle
    refine agr_no hI0 (-1) ?_ ⟨B, ?_, Off.rf B⟩
    · simp (decide := true) only [QX11_feed, k2, hle, hle', if_true, if_false]
    · simp (decide := true) only [QX12_feed, k3, hle, hle', if_true, if_false]
