/-! what changes: undo, hold, restore, tell, forget -/
section
variable {B im : gm_I} {nm nk ns : Nat}
theorem slotR_eq (h : slotR B nm nk ns) (h4 : im 23 4 = B 23 4) (h126 : im 126 = B 126) (h127 : im 127 = B 127) (hs : ∀ s, s < 3 → im (66 + s) = B (66 + s)) : slotR im nm nk ns := by
  obtain ⟨hd, a1, a2, a3⟩ := h
  refine ⟨hd, a1, by rw [h4]; exact a2, fun s hs2 => ?_⟩
  rw [h126, h127, hs s hs2]; exact a3 s hs2
theorem toldR_eq (h : toldR B) (h0 : im 0 11 = B 0 11) (h61 : im 84 61 = B 84 61) (h82 : im 82 = B 82) (h83 : im 83 = B 83) (h123 : im 123 = B 123) (h124 : im 124 = B 124) : toldR im := by
  obtain ⟨t, a1, a2, a3, a4⟩ := h
  refine ⟨t, a1, by rw [h0]; exact a2, by rw [h61]; exact a3, fun i hi => ?_⟩
  rw [h82, h83, h123, h124]; exact a4 i hi
theorem tapeR_eq (h : tapeR B) (h0 : im 0 1 = B 0 1) (h2 : im 84 2 = B 84 2) (h1 : im 1 = B 1) (h85 : im 85 = B 85) : tapeR im := by
  obtain ⟨k, a1, a2, a3, a4⟩ := h
  refine ⟨k, a1, by rw [h0]; exact a2, by rw [h2]; exact a3, fun i hi => ?_⟩
  rw [h1, h85]; exact a4 i hi
theorem pastR_eq (h : pastR B nm nk ns) (h2 : im 23 2 = B 23 2) (h3 : im 23 3 = B 23 3) (h54 : im 84 54 = B 84 54) (h120 : im 120 = B 120) (hd : ∀ x, x < 40 → im (25 + x) = B (25 + x)) : pastR im nm nk ns := by
  obtain ⟨nx, sz, a1, a2, a3, a4, a5, a6⟩ := h
  refine ⟨nx, sz, a1, a2, by rw [h2]; exact a3, by rw [h3]; exact a4, by rw [h54]; exact a5, fun k hk => ?_⟩
  rw [h120, hd _ (Nat.mod_lt _ (by decide))]; exact a6 k hk
end
theorem nI_inj {a b : Nat} (ha : a < 2 ^ 31) (hb : b < 2 ^ 31) (h : nI a = nI b) : a = b := by
  have h1 := nI_clamp ha
  rw [h, nI_clamp hb] at h1
  exact h1.symm
def prv (nx : Nat) : Nat := if 0 < nx then nx - 1 else 39
theorem M_undo_loop {u : Nat} (hu : u < 40) (lm : gm_L) : ∀ (w k : Nat) (im : gm_I), k + w = 80 → im 84 54 = nI u → ∃ im', gm_den 239 21 [.ref 84, .int (nI k)] [] 128 gm_RF im lm = some (some (.int 1), 128, gm_RF, im', lm) ∧ (∀ j, j < 80 → im' 116 j = if k ≤ j then im 120 (80 * u + j) else im 116 j) ∧ Fr [116] im im' := by
  intro w
  induction w with
  | zero =>
    intro k im hw h54
    have : k = 80 := by omega
    subst this
    refine ⟨im, ?_, fun j hj => by rw [if_neg (by omega)], Fr.rf _ _⟩
    rw [LX12_undo_21]
    simp (decide := true) only [QX12_undo, if_true, nb1]
  | succ w ih =>
    intro k im hw h54
    have hlt : ¬ (80 : Int32) ≤ nI k := nI_ge (b := 80) (by omega) (by decide)
    have e80 : 80 * nI u + nI k = nI (80 * u + k) := by rw [show (80 : Int32) = nI 80 from rfl, nI_mul, nI_add]
    obtain ⟨im', h1, h2, h3⟩ := ih (k + 1) (gm_up im 116 k (im 120 (80 * u + k))) (by omega) (by rw [gu_ne (by decide)]; exact h54)
    refine ⟨im', ?_, fun j hj => ?_, Fr.tr ((Fr.rf _ im).up (by simp)) h3⟩
    · rw [← h1, LX12_undo_21]
      simp only [QX12_undo, hlt, if_false, h54, e80, i3200 (80 * u + k) (show 80 * u + k < 3200 by omega), i80n k (show k < 80 by omega), if_true, nI_a1]
    · rw [h2 j hj]
      by_cases e : j = k
      · subst e; rw [if_neg (by omega), gu_eq, if_pos (Nat.le_refl _)]
      · by_cases hl : k ≤ j
        · rw [if_pos (by omega), if_pos hl, gu_ne (by decide)]
        · rw [if_neg (by omega), if_neg hl, gu_nk e]
theorem A_undo : Agr 123 239 [.ref 0] [.ref 84, .null] := by
  intro B lm l nm nk nj ns hI
  have hI0 := hI
  obtain ⟨hR, hr, ⟨nx, sz, hx, hz, e2, e3, e54, hp⟩, i4, i5, i6, i7, i8⟩ := hI
  have hm7 := iR_nm hR
  have hk5 := iR_nk hR
  have n1 : Value.category .null = 1 := rfl
  by_cases h0 : sz = 0
  · subst h0
    have z3 : B 23 3 = 0 := e3
    have z54 : B 84 54 = 0 := e54
    refine agr_no hI0 0 ?_ ⟨B, ?_, Off.rf B⟩
    · simp (decide := true) only [QX11_undo, QX3_takeBack, z3, if_true, if_false, nb0, gm_cont_i]
    · simp (decide := true) only [QX12_undo, z54, if_true, if_false, nb0]
  · have z3 : ¬ nI sz = 0 := nI_ne0 (by omega) (by omega)
    have hpv : prv nx < 40 := by unfold prv; split <;> omega
    have hin : gm_in (nI (prv nx)) 40 = true ∧ (nI (prv nx)).toNatClampNeg = prv nx := ⟨gm_in_nI hpv (by decide), nI_clamp (by omega)⟩
    let im0 := gm_up (gm_up B 23 3 (nI (sz - 1))) 23 2 (nI (prv nx))
    have hcp := C_copyRow (a := 25 + prv nx) (b := 22) im0 lm (by omega) (by decide) (by omega) (lay_done hpv) lay_22
    let im1 := gm_cpy im0 (25 + prv nx) 22 77
    have row1 : ∀ q, q ≠ 22 → q ≠ 23 → im1 q = B q := fun q a b => by
      show gm_cpy im0 (25 + prv nx) 22 77 q = _
      rw [cpy_row a]
      show gm_up (gm_up B 23 3 _) 23 2 _ q = _
      rw [gu_row b, gu_row b]
    have c23 : ∀ k, im1 23 k = im0 23 k := fun k => by show gm_cpy im0 (25 + prv nx) 22 77 23 k = _; rw [cpy_row (by decide)]
    have e54' : im1 84 54 = nI sz := by rw [row1 84 (by decide) (by decide)]; exact e54
    obtain ⟨im2, q1, q2, f2⟩ := M_undo_loop (u := sz - 1) (by omega) lm 80 0 (gm_up im1 84 54 (nI (sz - 1))) (by omega) gu_eq
    have row2 : ∀ q, q ≠ 22 → q ≠ 23 → q ≠ 84 → q ≠ 116 → im2 q = B q := fun q a b c d => by
      rw [f2 q (by simp [d]), gu_row c]; exact row1 q a b
    have f84 : ∀ k, k ≠ 54 → im2 84 k = B 84 k := fun k hk => by
      rw [f2 84 (by decide), gu_nk hk, row1 84 (by decide) (by decide)]
    have r22 : ∀ j, j < 77 → im2 22 j = B (25 + prv nx) j := fun j hj => by
      rw [f2 22 (by decide), gu_ne (by decide)]
      show gm_cpy im0 (25 + prv nx) 22 77 22 j = _
      rw [cpy_at hj]
      show gm_up (gm_up B 23 3 _) 23 2 _ (25 + prv nx) j = _
      rw [gu_ne (by omega), gu_ne (by omega)]
    have r116 : ∀ j, j < 80 → im2 116 j = B 120 (80 * (sz - 1) + j) := fun j hj => by
      rw [q2 j hj, if_pos (Nat.zero_le _), gu_ne (by decide), row1 120 (by decide) (by decide)]
    have c23' : ∀ k, im2 23 k = im0 23 k := fun k => by rw [f2 23 (by decide), gu_ne (by decide)]; exact c23 k
    refine ⟨1, im1, lm, im2, lm, l, nm, nk, nj, ns, ?_, ?_, ?_⟩
    · have e32 : B 23 3 = nI sz := e3
      have ev : nI sz - 1 = nI (sz - 1) := nI_m1 (by omega)
      have b2 : gm_up B 23 3 (nI (sz - 1)) 23 2 = nI nx := by rw [gu_nk (by decide)]; exact e2
      have b2' : gm_up (gm_up B 23 3 (nI (sz - 1))) 23 2 (nI (prv nx)) 23 2 = nI (prv nx) := gu_eq
      by_cases hn0 : 0 < nx
      · have hle : ¬ nI nx ≤ 0 := nI_nle hn0 (by omega)
        have ev2 : nI nx - 1 = nI (prv nx) := by rw [nI_m1 hn0]; unfold prv; rw [if_pos hn0]
        simp (decide := true) only [QX11_undo, QX3_takeBack, e32, z3, if_true, if_false, gm_cat_r, ev, b2, hle, ev2, b2', hin]
        rw [show gm_up (gm_up B 23 3 (nI (sz - 1))) 23 2 (nI (prv nx)) = im0 from rfl, hcp]
        simp (decide := true) only [QX3_takeBack, QX11_undo, gm_cont_v, gm_cont_i, nb1]
        rfl
      · have hle : nI nx ≤ 0 := by rw [show nx = 0 by omega]; decide
        have ev2 : (39 : Int32) = nI (prv nx) := by unfold prv; rw [if_neg hn0]; rfl
        simp (decide := true) only [QX11_undo, QX3_takeBack, e32, z3, if_true, if_false, gm_cat_r, ev, b2, hle]
        rw [ev2]
        simp (decide := true) only [QX3_takeBack, b2', hin, if_true]
        rw [show gm_up (gm_up B 23 3 (nI (sz - 1))) 23 2 (nI (prv nx)) = im0 from rfl, hcp]
        simp (decide := true) only [QX3_takeBack, QX11_undo, gm_cont_v, gm_cont_i, nb1]
        rfl
    · rw [← q1]
      have ev : nI sz - 1 = nI (sz - 1) := nI_m1 (by omega)
      simp (decide := true) only [QX12_undo, e54', z3, if_true, if_false, gm_cat_r, ev, n1]
      rfl
    · have hidx : (nx + 40 - sz + (sz - 1)) % 40 = prv nx := by
        have hv : (prv nx = nx - 1 ∧ 0 < nx) ∨ (prv nx = 39 ∧ nx = 0) := by unfold prv; split <;> omega
        omega
      refine ⟨iRoll_eq (fun q hq => row2 q (by omega) (by omega) (by omega) (by omega)) (f84 18 (by decide)) hR, ?_, ?_, ?_, ?_, ?_, ?_, i8⟩
      · have h9 := hp (sz - 1) (by omega)
        rw [hidx] at h9
        exact rRel_eq hm7 hk5 h9 r22 (fun j hj => r116 j hj)
      · refine ⟨prv nx, sz - 1, hpv, by omega, ?_, ?_, ?_, fun k hk => ?_⟩
        · rw [c23']; exact gu_eq
        · rw [c23']
          show gm_up (gm_up B 23 3 _) 23 2 _ 23 3 = _
          rw [gu_nk (by decide), gu_eq]
        · rw [f2 84 (by decide), gu_eq]
        · have hlt : (prv nx + 40 - (sz - 1) + k) % 40 < 40 := Nat.mod_lt _ (by decide)
          have hix : (prv nx + 40 - (sz - 1) + k) % 40 = (nx + 40 - sz + k) % 40 := by
            have hv : (prv nx = nx - 1 ∧ 0 < nx) ∨ (prv nx = 39 ∧ nx = 0) := by unfold prv; split <;> omega
            omega
          rw [row2 _ (by omega) (by omega) (by omega) (by omega), row2 120 (by decide) (by decide) (by decide) (by decide), hix]
          exact hp k (by omega)
      · exact slotR_eq i4 (by rw [c23']; show gm_up (gm_up B 23 3 _) 23 2 _ 23 4 = _; rw [gu_nk (by decide), gu_nk (by decide)]) (row2 126 (by decide) (by decide) (by decide) (by decide)) (row2 127 (by decide) (by decide) (by decide) (by decide)) (fun s hs => row2 _ (by omega) (by omega) (by omega) (by omega))
      · exact toldR_eq i5 (by rw [row2 0 (by decide) (by decide) (by decide) (by decide)]) (f84 61 (by decide)) (row2 82 (by decide) (by decide) (by decide) (by decide)) (row2 83 (by decide) (by decide) (by decide) (by decide)) (row2 123 (by decide) (by decide) (by decide) (by decide)) (row2 124 (by decide) (by decide) (by decide) (by decide))
      · exact tapeR_eq i6 (by rw [row2 0 (by decide) (by decide) (by decide) (by decide)]) (f84 2 (by decide)) (row2 1 (by decide) (by decide) (by decide) (by decide)) (row2 85 (by decide) (by decide) (by decide) (by decide))
      · rw [row2 0 (by decide) (by decide) (by decide) (by decide), f84 17 (by decide)]; exact i7
theorem i240 (i : Nat) (hi : i < 240) : gm_in (nI i) 240 = true ∧ (nI i).toNatClampNeg = i := ⟨gm_in_nI hi (by decide), nI_clamp (by omega)⟩
theorem M_hold_loop {u : Nat} (hu : u < 3) (lm : gm_L) : ∀ (w k : Nat) (im : gm_I), k + w = 80 → ∃ im', gm_den 271 20 [.ref 84, .int (nI u), .int (nI k)] [] 128 gm_RF im lm = some (some (.int 1), 128, gm_RF, im', lm) ∧ (∀ j, im' 127 j = if 80 * u + k ≤ j ∧ j < 80 * u + 80 then im 116 (j - 80 * u) else im 127 j) ∧ Fr [127] im im' := by
  intro w
  induction w with
  | zero =>
    intro k im hw
    have : k = 80 := by omega
    subst this
    refine ⟨im, ?_, fun j => by rw [if_neg (by omega)], Fr.rf _ _⟩
    rw [LX12_hold_20]
    simp (decide := true) only [QX12_hold, if_true, nb1]
  | succ w ih =>
    intro k im hw
    have hlt : ¬ (80 : Int32) ≤ nI k := nI_ge (b := 80) (by omega) (by decide)
    have e80 : 80 * nI u + nI k = nI (80 * u + k) := by rw [show (80 : Int32) = nI 80 from rfl, nI_mul, nI_add]
    obtain ⟨im', h1, h2, h3⟩ := ih (k + 1) (gm_up im 127 (80 * u + k) (im 116 k)) (by omega)
    refine ⟨im', ?_, fun j => ?_, Fr.tr ((Fr.rf _ im).up (by simp)) h3⟩
    · rw [← h1, LX12_hold_20]
      simp only [QX12_hold, hlt, if_false, e80, i240 (80 * u + k) (show 80 * u + k < 240 by omega), i80n k (show k < 80 by omega), if_true, nI_a1]
    · rw [h2 j]
      by_cases e : j = 80 * u + k
      · subst e; rw [if_neg (by omega), gu_eq, if_pos (by omega), Nat.add_sub_cancel_left]
      · by_cases hl : 80 * u + k ≤ j ∧ j < 80 * u + 80
        · rw [if_pos (by omega), if_pos hl, gu_ne (by decide)]
        · rw [if_neg (by omega), if_neg hl, gu_nk e]
theorem ors_all : ∀ h : Fin 8, ∀ s : Fin 3, nI h.val ||| (1 <<< (nI s.val &&& 31)) = nI (h.val ||| 2 ^ s.val) ∧ (h.val ||| 2 ^ s.val) < 8 ∧ ∀ t : Fin 3, (h.val ||| 2 ^ s.val).testBit t.val = (h.val.testBit t.val || (t.val == s.val)) := by decide +kernel
theorem Mg_2 (a : Int32) (im : gm_I) (lm : gm_L) : gm_den 200 0 [.int a, .int 0, .int 2] [] 128 gm_RF im lm = some (some (.int (b32 (okI 3 a))), 128, gm_RF, im, lm) := Mg_in (n := 3) (by decide) a im lm
theorem A_hold (s : Int32) : Agr 142 271 [.ref 0, .int s] [.ref 84, .int s, .null] := by
  intro B lm l nm nk nj ns hI
  have hI0 := hI
  obtain ⟨hR, hr, i3, ⟨hd, a1, a2, a3⟩, i5, i6, i7, i8⟩ := hI
  have hm7 := iR_nm hR
  have hk5 := iR_nk hR
  have n1 : Value.category .null = 1 := rfl
  cases hg : okI 3 s with
  | false =>
    refine agr_no hI0 0 ?_ ⟨B, ?_, Off.rf B⟩
    · rcases okI_f hg with h | ⟨h, h2⟩
      · simp (decide := true) only [QX11_hold, h, if_true, if_false, nb0]
      · have h2' : ¬ s < 3 := Int32.not_lt.mpr h2
        simp (decide := true) only [QX11_hold, h, h2', if_true, if_false, nb0]
    · simp (decide := true) only [QX12_hold, Mg_2, hg, b32_f, gm_cont_i, if_true, if_false, nb0]
  | true =>
    obtain ⟨k0, k1, k2⟩ := okI_tt hg
    obtain ⟨u, hu, rfl⟩ := okI_t (by decide) hg
    have k2' : nI u < 3 := k2
    have k1' : ¬ (3 : Int32) ≤ nI u := k1
    obtain ⟨o1, o2, o3⟩ := ors_all ⟨hd, a1⟩ ⟨u, hu⟩
    simp only [] at o1 o2 o3
    have hcp := C_copyRow (a := 22) (b := 66 + u) B lm (by decide) (by omega) (by omega) lay_22 (lay_slot hu)
    let im1 := gm_up (gm_cpy B 22 (66 + u) 77) 23 4 (nI (hd ||| 2 ^ u))
    have row1 : ∀ q, q ≠ 23 → q ≠ 66 + u → im1 q = B q := fun q a b => by
      show gm_up (gm_cpy B 22 (66 + u) 77) 23 4 _ q = _
      rw [gu_row a, cpy_row b]
    obtain ⟨im2, q1, q2, f2⟩ := M_hold_loop hu lm 80 0 (gm_up im1 126 u 1) (by omega)
    have row2 : ∀ q, q ≠ 23 → q ≠ 66 + u → q ≠ 126 → q ≠ 127 → im2 q = B q := fun q a b c d => by
      rw [f2 q (by simp [d]), gu_row c]; exact row1 q a b
    have c23 : ∀ k, k ≠ 4 → im2 23 k = B 23 k := fun k hk => by
      rw [f2 23 (by decide), gu_ne (by decide)]
      show gm_up (gm_cpy B 22 (66 + u) 77) 23 4 _ 23 k = _
      rw [gu_nk hk, cpy_row (by omega)]
    refine ⟨1, im1, lm, im2, lm, l, nm, nk, nj, ns, ?_, ?_, ?_⟩
    · have b4 : gm_cpy B 22 (66 + u) 77 23 4 = nI hd := by rw [cpy_row (by omega)]; exact a2
      simp (decide := true) only [QX11_hold, QX3_putInSlot, k0, k1', k2', if_true, if_false, i3s u hu, hcp, gm_cont_v, gm_cat_r, b4, o1, nb1]
      rfl
    · rw [← q1]
      simp (decide := true) only [QX12_hold, Mg_2, hg, b32_t, gm_cont_i, if_true, if_false, i3s u hu, gm_cat_i, n1, and_self, or_true]
      rfl
    · refine ⟨iRoll_eq (fun q hq => row2 q (by omega) (by omega) (by omega) (by omega)) (by rw [row2 84 (by decide) (by omega) (by decide) (by decide)]) hR, ?_, ?_, ?_, ?_, ?_, ?_, i8⟩
      · rw [row2 22 (by decide) (by omega) (by decide) (by decide), row2 116 (by decide) (by omega) (by decide) (by decide)]; exact hr
      · exact pastR_eq i3 (c23 2 (by decide)) (c23 3 (by decide)) (by rw [row2 84 (by decide) (by omega) (by decide) (by decide)]) (row2 120 (by decide) (by omega) (by decide) (by decide)) (fun x hx => row2 _ (by omega) (by omega) (by omega) (by omega))
      · refine ⟨hd ||| 2 ^ u, o2, ?_, fun t ht => ?_⟩
        · rw [f2 23 (by decide), gu_ne (by decide)]; exact gu_eq
        · have ob := o3 ⟨t, ht⟩
          simp only [] at ob
          by_cases e : t = u
          · subst e
            rw [ob]
            refine ⟨?_, fun _ => ?_⟩
            · rw [f2 126 (by decide), gu_eq]; simp [b32]
            · refine rRel_eq hm7 hk5 hr (fun j hj => ?_) (fun j hj => ?_)
              · rw [f2 _ (by simp; omega), gu_ne (by omega)]
                show gm_up (gm_cpy B 22 (66 + t) 77) 23 4 _ (66 + t) j = _
                rw [gu_ne (by omega), cpy_at hj]
              · rw [q2, if_pos (by omega), Nat.add_sub_cancel_left, gu_ne (by decide), row1 116 (by decide) (by omega)]
          · have e' : (t == u) = false := by simp [e]
            rw [ob, e', Bool.or_false]
            refine ⟨?_, fun hb => ?_⟩
            · rw [f2 126 (by decide), gu_nk e, row1 126 (by decide) (by omega)]; exact (a3 t ht).1
            · refine rRel_eq hm7 hk5 ((a3 t ht).2 hb) (fun j hj => by rw [row2 _ (by omega) (by omega) (by omega) (by omega)]) (fun j hj => ?_)
              rw [q2, if_neg (by omega), gu_ne (by decide), row1 127 (by decide) (by omega)]
      · exact toldR_eq i5 (by rw [row2 0 (by decide) (by omega) (by decide) (by decide)]) (by rw [row2 84 (by decide) (by omega) (by decide) (by decide)]) (row2 82 (by decide) (by omega) (by decide) (by decide)) (row2 83 (by decide) (by omega) (by decide) (by decide)) (row2 123 (by decide) (by omega) (by decide) (by decide)) (row2 124 (by decide) (by omega) (by decide) (by decide))
      · exact tapeR_eq i6 (by rw [row2 0 (by decide) (by omega) (by decide) (by decide)]) (by rw [row2 84 (by decide) (by omega) (by decide) (by decide)]) (row2 1 (by decide) (by omega) (by decide) (by decide)) (row2 85 (by decide) (by omega) (by decide) (by decide))
      · rw [row2 0 (by decide) (by omega) (by decide) (by decide), row2 84 (by decide) (by omega) (by decide) (by decide)]; exact i7
theorem M_restore_loop {u : Nat} (hu : u < 3) (lm : gm_L) : ∀ (w k : Nat) (im : gm_I), k + w = 80 → ∃ im', gm_den 272 22 [.ref 84, .int (nI u), .int (nI k)] [] 128 gm_RF im lm = some (some (.int 1), 128, gm_RF, gm_up im' 84 54 0, lm) ∧ (∀ j, j < 80 → im' 116 j = if k ≤ j then im 127 (80 * u + j) else im 116 j) ∧ Fr [116] im im' := by
  intro w
  induction w with
  | zero =>
    intro k im hw
    have : k = 80 := by omega
    subst this
    refine ⟨im, ?_, fun j hj => by rw [if_neg (by omega)], Fr.rf _ _⟩
    rw [LX12_restore_22]
    simp (decide := true) only [QX12_restore, if_true, nb1]
  | succ w ih =>
    intro k im hw
    have hlt : ¬ (80 : Int32) ≤ nI k := nI_ge (b := 80) (by omega) (by decide)
    have e80 : 80 * nI u + nI k = nI (80 * u + k) := by rw [show (80 : Int32) = nI 80 from rfl, nI_mul, nI_add]
    obtain ⟨im', h1, h2, h3⟩ := ih (k + 1) (gm_up im 116 k (im 127 (80 * u + k))) (by omega)
    refine ⟨im', ?_, fun j hj => ?_, Fr.tr ((Fr.rf _ im).up (by simp)) h3⟩
    · rw [← h1, LX12_restore_22]
      simp only [QX12_restore, hlt, if_false, e80, i240 (80 * u + k) (show 80 * u + k < 240 by omega), i80n k (show k < 80 by omega), if_true, nI_a1]
    · rw [h2 j hj]
      by_cases e : j = k
      · subst e; rw [if_neg (by omega), gu_eq, if_pos (Nat.le_refl _)]
      · by_cases hl : k ≤ j
        · rw [if_pos (by omega), if_pos hl, gu_ne (by decide)]
        · rw [if_neg (by omega), if_neg hl, gu_nk e]
theorem A_restore (s : Int32) : Agr 143 272 [.ref 0, .int s] [.ref 84, .int s, .null] := by
  intro B lm l nm nk nj ns hI
  have hI0 := hI
  obtain ⟨hR, hr, ⟨nx, sz, hx, hz, e2, e3, e54, hp⟩, ⟨hd, a1, a2, a3⟩, i5, i6, i7, i8⟩ := hI
  have hm7 := iR_nm hR
  have hk5 := iR_nk hR
  have n1 : Value.category .null = 1 := rfl
  cases hg : okI 3 s with
  | false =>
    refine agr_no hI0 0 ?_ ⟨B, ?_, Off.rf B⟩
    · rcases okI_f hg with h | ⟨h, h2⟩
      · simp (decide := true) only [QX11_restore, h, if_true, if_false, nb0]
      · have h2' : (3 : Int32) ≤ s := h2
        simp (decide := true) only [QX11_restore, h, h2', if_true, if_false, nb0]
    · simp (decide := true) only [QX12_restore, Mg_2, hg, b32_f, gm_cont_i, if_true, if_false, nb0]
  | true =>
    obtain ⟨k0, k1, k2⟩ := okI_tt hg
    obtain ⟨u, hu, rfl⟩ := okI_t (by decide) hg
    have k1' : ¬ (3 : Int32) ≤ nI u := k1
    have hbit := bitn (show hd < 256 by omega) (show u < 8 by omega)
    obtain ⟨b1, b2⟩ := a3 u hu
    cases hb : hd.testBit u with
    | false =>
      rw [hb] at hbit b1
      refine agr_no hI0 0 ?_ ⟨B, ?_, Off.rf B⟩
      · simp (decide := true) only [QX11_restore, QX3_takeFromSlot, k0, k1', if_true, if_false, a2, hbit, b32_f, gm_cont_i, nb0]
      · simp (decide := true) only [QX12_restore, Mg_2, hg, b32_t, b32_f, gm_cont_i, if_true, if_false, i3s u hu, b1, nb0]
    | true =>
      rw [hb] at hbit b1
      have hrs := b2 hb
      have hcp := C_copyRow (a := 66 + u) (b := 22) B lm (by omega) (by decide) (by omega) (lay_slot hu) lay_22
      let im1 := gm_up (gm_cpy B (66 + u) 22 77) 23 3 0
      have row1 : ∀ q, q ≠ 22 → q ≠ 23 → im1 q = B q := fun q a b => by
        show gm_up (gm_cpy B (66 + u) 22 77) 23 3 0 q = _
        rw [gu_row b, cpy_row a]
      obtain ⟨im', q1, q2, f2⟩ := M_restore_loop hu lm 80 0 im1 (by omega)
      let im2 := gm_up im' 84 54 0
      have row2 : ∀ q, q ≠ 22 → q ≠ 23 → q ≠ 84 → q ≠ 116 → im2 q = B q := fun q a b c d => by
        show gm_up im' 84 54 0 q = _
        rw [gu_row c, f2 q (by simp [d])]; exact row1 q a b
      have f84 : ∀ k, k ≠ 54 → im2 84 k = B 84 k := fun k hk => by
        show gm_up im' 84 54 0 84 k = _
        rw [gu_nk hk, f2 84 (by decide), row1 84 (by decide) (by decide)]
      have c23 : ∀ k, k ≠ 3 → im2 23 k = B 23 k := fun k hk => by
        show gm_up im' 84 54 0 23 k = _
        rw [gu_ne (by decide), f2 23 (by decide)]
        show gm_up (gm_cpy B (66 + u) 22 77) 23 3 0 23 k = _
        rw [gu_nk hk, cpy_row (by decide)]
      refine ⟨1, im1, lm, im2, lm, l, nm, nk, nj, ns, ?_, ?_, ?_⟩
      · simp (decide := true) only [QX11_restore, QX3_takeFromSlot, k0, k1', if_true, if_false, a2, hbit, b32_t, gm_cont_i, gm_cont_v, i3s u hu, hcp, nb1]
        rfl
      · show _ = some (some (Value.int 1), 128, gm_RF, gm_up im' 84 54 0, lm)
        rw [← q1]
        have b1' : im1 126 u = 1 := by rw [row1 126 (by decide) (by decide)]; exact b1
        simp (decide := true) only [QX12_restore, Mg_2, hg, b32_t, gm_cont_i, if_true, if_false, i3s u hu, b1', gm_cat_i, n1]
        rfl
      · refine ⟨iRoll_eq (fun q hq => row2 q (by omega) (by omega) (by omega) (by omega)) (f84 18 (by decide)) hR, ?_, ?_, ?_, ?_, ?_, ?_, i8⟩
        · refine rRel_eq hm7 hk5 hrs (fun j hj => ?_) (fun j hj => ?_)
          · show gm_up im' 84 54 0 22 j = _
            rw [gu_ne (by decide), f2 22 (by decide)]
            show gm_up (gm_cpy B (66 + u) 22 77) 23 3 0 22 j = _
            rw [gu_ne (by decide), cpy_at hj]
          · show gm_up im' 84 54 0 116 j = _
            rw [gu_ne (by decide), q2 j hj, if_pos (Nat.zero_le _), row1 127 (by decide) (by decide)]
        · refine ⟨nx, 0, hx, by omega, by rw [c23 2 (by decide)]; exact e2, ?_, gu_eq, fun k hk => absurd hk (Nat.not_lt_zero _)⟩
          show gm_up im' 84 54 0 23 3 = _
          rw [gu_ne (by decide), f2 23 (by decide)]
          show gm_up (gm_cpy B (66 + u) 22 77) 23 3 0 23 3 = _
          rw [gu_eq]; rfl
        · exact slotR_eq ⟨hd, a1, a2, a3⟩ (c23 4 (by decide)) (row2 126 (by decide) (by decide) (by decide) (by decide)) (row2 127 (by decide) (by decide) (by decide) (by decide)) (fun s hs => row2 _ (by omega) (by omega) (by omega) (by omega))
        · exact toldR_eq i5 (by rw [row2 0 (by decide) (by decide) (by decide) (by decide)]) (f84 61 (by decide)) (row2 82 (by decide) (by decide) (by decide) (by decide)) (row2 83 (by decide) (by decide) (by decide) (by decide)) (row2 123 (by decide) (by decide) (by decide) (by decide)) (row2 124 (by decide) (by decide) (by decide) (by decide))
        · exact tapeR_eq i6 (by rw [row2 0 (by decide) (by decide) (by decide) (by decide)]) (f84 2 (by decide)) (row2 1 (by decide) (by decide) (by decide) (by decide)) (row2 85 (by decide) (by decide) (by decide) (by decide))
        · rw [row2 0 (by decide) (by decide) (by decide) (by decide), f84 17 (by decide)]; exact i7
