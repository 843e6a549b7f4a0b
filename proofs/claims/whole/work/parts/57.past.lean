/-! what can be gone back to -/
theorem lay_done {x : Nat} (h : x < 40) : gm_LAY[25 + x]? = some (1, 77) := by
  have : ∀ x : Fin 40, gm_LAY[25 + x.val]? = some (1, 77) := by decide +kernel
  exact this ⟨x, h⟩
theorem lay_slot {x : Nat} (h : x < 3) : gm_LAY[66 + x]? = some (1, 77) := by
  have : ∀ x : Fin 3, gm_LAY[66 + x.val]? = some (1, 77) := by decide +kernel
  exact this ⟨x, h⟩
theorem lay_22 : gm_LAY[22]? = some (1, 77) := by decide +kernel
theorem C_copyRow {a b : Nat} (im : gm_I) (lm : gm_L) (ha : a < 128) (hb : b < 128) (hab : a ≠ b) (hla : gm_LAY[a]? = some (1, 77)) (hlb : gm_LAY[b]? = some (1, 77)) : gm_den 50 0 [.ref a, .ref b] [] 128 gm_RF im lm = some (none, 128, gm_RF, gm_cpy im a b 77, lm) := by
  have h1 : ¬ a = 1030 := by omega
  have h2 : ¬ b = 1030 := by omega
  rw [QX3_copyRow.1 a b [] im lm h1, QX3_copyRow.2.1, QX3_copyRow.2.2.1 a b _ im lm h2, QX3_copyRow.2.2.2.1, QX3_copyRow.2.2.2.2.1, QX3_copyRow.2.2.2.2.2.1 a b b a im lm ha hb hab hla hlb, QX3_copyRow.2.2.2.2.2.2]
def nxt (nx : Nat) : Nat := if nx + 1 < 40 then nx + 1 else 0
def szt (sz : Nat) : Nat := if sz + 1 < 40 then sz + 1 else 40
theorem cpy_row {im : gm_I} {a b q w : Nat} (h : q ≠ b) : gm_cpy im a b w q = im q := by funext j; simp [gm_cpy, h]
theorem cpy_at {im : gm_I} {a b w j : Nat} (h : j < w) : gm_cpy im a b w b j = im a j := by simp [gm_cpy, h]
def cKp (im : gm_I) (nx sz : Nat) : gm_I := gm_up (gm_up (gm_cpy im 22 (25 + nx) 77) 23 2 (nI (nxt nx))) 23 3 (nI (szt sz))
theorem C_keep {im : gm_I} {nx sz : Nat} (hx : nx < 40) (hz : sz ≤ 40) (h2 : im 23 2 = nI nx) (h3 : im 23 3 = nI sz) (lm : gm_L) : gm_den 46 0 [.ref 23, .ref 21] [] 128 gm_RF im lm = some (none, 128, gm_RF, cKp im nx sz, lm) := by
  have hin : gm_in (nI nx) 40 = true ∧ (nI nx).toNatClampNeg = nx := ⟨gm_in_nI hx (by decide), nI_clamp (by omega)⟩
  have hcp := C_copyRow (a := 22) (b := 25 + nx) im lm (by decide) (by omega) (by omega) lay_22 (lay_done hx)
  have e2 : gm_cpy im 22 (25 + nx) 77 23 2 = nI nx ∨ 25 + nx = 23 := Or.inl (by rw [cpy_row (by omega)]; exact h2)
  have e2' : gm_cpy im 22 (25 + nx) 77 23 2 = nI nx := by rw [cpy_row (by omega)]; exact h2
  have e3 : ∀ v, gm_up (gm_cpy im 22 (25 + nx) 77) 23 2 v 23 3 = nI sz := fun v => by rw [gu_nk (by decide), cpy_row (by omega)]; exact h3
  have em : (if (40 : Int32) < nI (sz + 1) then (40 : Int32) else nI (sz + 1)) = nI (szt sz) := by
    unfold szt
    by_cases h : sz + 1 < 40
    · have hh : ¬ (40 : Int32) < nI (sz + 1) := nI_nlt (a := 40) (by omega) (by decide)
      rw [if_pos h, if_neg hh]
    · rw [if_neg h]
      by_cases h' : 40 < sz + 1
      · have hh : (40 : Int32) < nI (sz + 1) := nI_lt (a := 40) h' (by omega)
        rw [if_pos hh]; rfl
      · have hh : ¬ (40 : Int32) < nI (sz + 1) := nI_nlt (a := 40) (by omega) (by decide)
        rw [if_neg hh, show sz + 1 = 40 by omega]
  unfold cKp
  by_cases hn : nx + 1 < 40
  · have hle : ¬ (40 : Int32) ≤ nI (nx + 1) := nI_ge (b := 40) hn (by decide)
    simp only [QX3_keep, h2, hin, if_true, hcp, gm_cont_v, e2', e3, nI_a1, hle, if_false, em, nxt, hn]
  · have hle : (40 : Int32) ≤ nI (nx + 1) := nI_le (a := 40) (by omega) (by omega)
    simp only [QX3_keep, h2, hin, if_true, hcp, gm_cont_v, e2', e3, nI_a1, hle, if_false, em, nxt, hn]
    rfl
/-- the reference keeps a row -/
theorem i3200 (i : Nat) (hi : i < 3200) : gm_in (nI i) 3200 = true ∧ (nI i).toNatClampNeg = i := ⟨gm_in_nI hi (by decide), nI_clamp (by omega)⟩
theorem i80n (i : Nat) (hi : i < 80) : gm_in (nI i) 80 = true ∧ (nI i).toNatClampNeg = i := ⟨gm_in_nI hi (by decide), nI_clamp (by omega)⟩
theorem M_shift_loop (H : Nat → Int32) (lm : gm_L) : ∀ (w k : Nat) (im : gm_I), k + w = 3120 → (∀ j, im 120 j = if j < k then H (j + 80) else H j) → ∃ im', gm_den 232 11 [.ref 84, .int (nI k)] [] 128 gm_RF im lm = gm_den 232 39 [.ref 84, .int (nI 3120)] [] 128 gm_RF im' lm ∧ (∀ j, im' 120 j = if j < 3120 then H (j + 80) else H j) ∧ Fr [120] im im' := by
  intro w
  induction w with
  | zero =>
    intro k im hw h
    have : k = 3120 := by omega
    subst this
    refine ⟨im, ?_, h, Fr.rf _ _⟩
    rw [LX12_keeps_11]
    simp (decide := true) only [QX12_keeps, if_true]
  | succ w ih =>
    intro k im hw h
    have hlt : ¬ (3120 : Int32) ≤ nI k := nI_ge (b := 3120) (by omega) (by decide)
    have e80 : nI k + 80 = nI (k + 80) := by rw [show (80 : Int32) = nI 80 from rfl, nI_add]
    obtain ⟨im', h1, h2, h3⟩ := ih (k + 1) (gm_up im 120 k (H (k + 80))) (by omega) (by
      intro j
      by_cases e : j = k
      · subst e; rw [gu_eq, if_pos (by omega)]
      · rw [gu_nk e, h j]
        by_cases hj : j < k
        · rw [if_pos hj, if_pos (by omega)]
        · rw [if_neg hj, if_neg (by omega)])
    refine ⟨im', ?_, h2, Fr.tr ((Fr.rf _ im).up (by simp)) h3⟩
    have hv : im 120 (k + 80) = H (k + 80) := by rw [h, if_neg (by omega)]
    rw [← h1, LX12_keeps_11]
    simp only [QX12_keeps, hlt, if_false, e80, i3200 (k + 80) (show k + 80 < 3200 by omega), i3200 k (show k < 3200 by omega), if_true, hv, nI_a1]
theorem M_hist_loop (H N : Nat → Int32) {u : Nat} (hu : u < 40) (lm : gm_L) : ∀ (w k : Nat) (im : gm_I), k + w = 80 → im 84 54 = nI u → im 116 = N → (∀ j, im 120 j = if 80 * u ≤ j ∧ j < 80 * u + k then N (j - 80 * u) else H j) → ∃ im', gm_den 232 51 [.ref 84, .int (nI k)] [] 128 gm_RF im lm = some (none, 128, gm_RF, im', lm) ∧ (∀ j, im' 120 j = if 80 * u ≤ j ∧ j < 80 * u + 80 then N (j - 80 * u) else H j) ∧ im' 84 54 = nI (u + 1) ∧ (∀ j, j < 80 → im' 116 j = im 117 j) ∧ (∀ q, q ≠ 84 → q ≠ 116 → q ≠ 120 → im' q = im q) ∧ ∀ k, k ≠ 54 → im' 84 k = im 84 k := by
  intro w
  induction w with
  | zero =>
    intro k im hw h54 h116 h
    have : k = 80 := by omega
    subst this
    have hk := M_keepsRow (gm_up im 84 54 (nI (u + 1))) lm
    refine ⟨mCp (gm_up im 84 54 (nI (u + 1))) 116 117 80, ?_, ?_, ?_, ?_, ?_, ?_⟩
    · rw [LX12_keeps_51]
      simp (decide := true) only [QX12_keeps, if_true, gm_cat_r, h54, nI_a1, hk, gm_cont_v]
    · intro j
      show gm_up im 84 54 (nI (u + 1)) 120 j = _
      rw [gu_ne (by decide)]; exact h j
    · show gm_up im 84 54 (nI (u + 1)) 84 54 = _
      rw [gu_eq]
    · intro j hj
      simp only [mCp, hj, and_self, if_true]
      rw [gu_ne (by decide)]
    · intro q h1 h2 h3
      funext j
      simp only [mCp, h2, false_and, if_false]
      rw [gu_ne h1]
    · intro k hk
      show gm_up im 84 54 (nI (u + 1)) 84 k = _
      rw [gu_nk hk]
  | succ w ih =>
    intro k im hw h54 h116 h
    have hlt : ¬ (80 : Int32) ≤ nI k := nI_ge (b := 80) (by omega) (by decide)
    have e80 : 80 * nI u + nI k = nI (80 * u + k) := by rw [show (80 : Int32) = nI 80 from rfl, nI_mul, nI_add]
    obtain ⟨im', h1, h2, h3, h4, h5, h6⟩ := ih (k + 1) (gm_up im 120 (80 * u + k) (N k)) (by omega) (by rw [gu_ne (by decide)]; exact h54) (by rw [gu_row (by decide)]; exact h116) (by
      intro j
      by_cases e : j = 80 * u + k
      · subst e; rw [gu_eq, if_pos (by omega), Nat.add_sub_cancel_left]
      · rw [gu_nk e, h j]
        by_cases hj : 80 * u ≤ j ∧ j < 80 * u + k
        · rw [if_pos hj, if_pos (by omega)]
        · rw [if_neg hj, if_neg (by omega)])
    refine ⟨im', ?_, h2, h3, fun j hj => ?_, fun q a b c => ?_, fun q hq => ?_⟩
    · have hv : im 116 k = N k := by rw [h116]
      rw [← h1, LX12_keeps_51]
      simp only [QX12_keeps, hlt, if_false, h54, e80, i3200 (80 * u + k) (show 80 * u + k < 3200 by omega), i80n k (show k < 80 by omega), if_true, hv, nI_a1]
    · rw [h4 j hj, gu_ne (by decide)]
    · rw [h5 q a b c, gu_row c]
    · rw [h6 q hq, gu_ne (by decide)]
/-- rows gone back to, with one more -/
def hisN (H N : Nat → Int32) (sz : Nat) (k i : Nat) : Int32 := if k + 1 = szt sz then N i else if sz = 40 then H (80 * (k + 1) + i) else H (80 * k + i)
theorem M_keeps {im : gm_I} {sz : Nat} (hz : sz ≤ 40) (h54 : im 84 54 = nI sz) (lm : gm_L) : ∃ im', gm_den 232 0 [.ref 84, .null] [] 128 gm_RF im lm = some (none, 128, gm_RF, im', lm) ∧ (∀ k i, k < szt sz → i < 80 → im' 120 (80 * k + i) = hisN (im 120) (im 116) sz k i) ∧ im' 84 54 = nI (szt sz) ∧ (∀ j, j < 80 → im' 116 j = im 117 j) ∧ (∀ q, q ≠ 84 → q ≠ 116 → q ≠ 120 → im' q = im q) ∧ ∀ k, k ≠ 54 → im' 84 k = im 84 k := by
  have n1 : Value.category .null = 1 := rfl
  by_cases h40 : sz = 40
  · subst h40
    obtain ⟨im1, h1, h2, f1⟩ := M_shift_loop (im 120) lm 3120 0 im (by omega) (fun j => by rw [if_neg (by omega)])
    obtain ⟨im', h3, h4, h5, h6, h7, h8⟩ := M_hist_loop (fun j => im1 120 j) (im 116) (u := 39) (by decide) lm 80 0 (gm_up im1 84 54 (nI 39)) (by omega) gu_eq (by rw [gu_row (by decide), f1 116 (by decide)]) (fun j => by rw [gu_ne (by decide), if_neg (by omega)])
    refine ⟨im', ?_, ?_, by rw [h5]; rfl, fun j hj => ?_, fun q a b c => ?_, fun k hk => ?_⟩
    · rw [← h3]
      have e54 : im1 84 54 = 40 := by rw [f1 84 (by decide)]; exact h54
      have e0 : im 84 54 = 40 := h54
      simp (decide := true) only [QX12_keeps, e0, if_true, if_false, gm_cat_r, n1]
      rw [show (0 : Int32) = nI 0 from rfl, h1]
      simp (decide := true) only [QX12_keeps, gm_cat_r, gm_cat_i, e54]
      rfl
    · intro k i hk hi
      have hk40 : k < 40 := by unfold szt at hk; simp at hk; exact hk
      rw [h4]
      unfold hisN
      rw [show szt 40 = 40 from rfl]
      by_cases hc : 80 * 39 ≤ 80 * k + i ∧ 80 * k + i < 80 * 39 + 80
      · have : k = 39 := by omega
        subst this
        rw [if_pos hc, if_pos rfl, Nat.add_sub_cancel_left]
      · rw [if_neg hc, if_neg (by omega), if_pos rfl]
        simp only [h2]
        rw [if_pos (by omega)]
        congr 1; omega
    · rw [h6 j hj, gu_ne (by decide), f1 117 (by decide)]
    · rw [h7 q a b c, gu_row a]; exact f1 q (by simp [c])
    · rw [h8 k hk, gu_nk hk, f1 84 (by decide)]
  · obtain ⟨im', h3, h4, h5, h6, h7, h8⟩ := M_hist_loop (im 120) (im 116) (u := sz) (by omega) lm 80 0 im (by omega) h54 rfl (fun j => by rw [if_neg (by omega)])
    have hs : szt sz = sz + 1 := by unfold szt; split <;> omega
    refine ⟨im', ?_, ?_, by rw [hs]; exact h5, h6, h7, h8⟩
    · rw [← h3]
      have hne : ¬ nI sz = 40 := fun e => by
        have h9 := nI_clamp (show sz < 2 ^ 31 by omega)
        rw [e] at h9
        have : (40 : Int32).toNatClampNeg = 40 := by decide
        omega
      simp (decide := true) only [QX12_keeps, h54, hne, if_true, if_false, gm_cat_r, n1]
      rfl
    · intro k i hk hi
      rw [hs] at hk
      rw [h4]
      unfold hisN
      rw [hs]
      by_cases hc : 80 * sz ≤ 80 * k + i ∧ 80 * k + i < 80 * sz + 80
      · have : k = sz := by omega
        subst this
        rw [if_pos hc, if_pos rfl, Nat.add_sub_cancel_left]
      · rw [if_neg hc, if_neg (by omega), if_neg h40]
/-- what the text told, where the rows are the same -/
theorem iRoll_eq {B im : gm_I} {l nm nk nj ns : Nat} (hq : ∀ q, (11 ≤ q ∧ q ≤ 18) ∨ (93 ≤ q ∧ q ≤ 112) → im q = B q) (h18 : im 84 18 = B 84 18) (h : iRoll B l nm nk nj ns) : iRoll im l nm nk nj ns := by
  obtain ⟨h1, h2, h3, h4, h5, h6, h7, h8, h9⟩ := h
  have hl : mLawOn B im := fun q a b => hq q (by omega)
  refine ⟨h1, ?_, ?_, ?_, ?_, ?_, cLawsOk_of h7 (hq 15 (by decide)) (hq 16 (by decide)) (hq 17 (by decide)) (hq 18 (by decide)), ⟨mLaws_B hl h8.1, mHalf_B hl h8.2⟩, fun k va hk => ?_⟩
  · rw [h18, hq 11 (by decide)]; exact h2
  · rw [hq 93 (by decide), hq 94 (by decide), hq 99 (by decide), hq 101 (by decide), hq 103 (by decide), hq 11 (by decide)]; exact h3
  · rw [hq 95 (by decide), hq 96 (by decide), hq 97 (by decide), hq 98 (by decide), hq 12 (by decide)]; exact h4
  · rw [hq 100 (by decide), hq 13 (by decide)]; exact h5
  · rw [hq 102 (by decide), hq 14 (by decide)]; exact h6
  · rw [cLaw_eq h7 (hq 15 (by decide)) (hq 16 (by decide)) (hq 17 (by decide)) (hq 18 (by decide)) (fun _ _ => rfl)]
    unfold mLawX
    rw [mLaw_B hl]
    exact h9 k va hk
theorem gs_roll {q : Nat} (h : (11 ≤ q ∧ q ≤ 18) ∨ (93 ≤ q ∧ q ≤ 112)) : gs q = false := by
  have h1 : ∀ q : Fin 8, gs (11 + q.val) = false := by decide
  have h2 : ∀ q : Fin 20, gs (93 + q.val) = false := by decide
  rcases h with h | h
  · have := h1 ⟨q - 11, by omega⟩
    simp only [] at this
    rw [show 11 + (q - 11) = q by omega] at this
    exact this
  · have := h2 ⟨q - 93, by omega⟩
    simp only [] at this
    rw [show 93 + (q - 93) = q by omega] at this
    exact this
theorem nxt_v {nx : Nat} (hx : nx < 40) : (nxt nx = nx + 1 ∧ nx + 1 < 40) ∨ (nxt nx = 0 ∧ nx = 39) := by unfold nxt; split <;> omega
theorem szt_v {sz : Nat} (hz : sz ≤ 40) : (szt sz = sz + 1 ∧ sz < 40) ∨ (szt sz = 40 ∧ sz = 40) := by unfold szt; split <;> omega
theorem idx_last {nx sz k : Nat} (hx : nx < 40) (hz : sz ≤ 40) (h : k + 1 = szt sz) : (nxt nx + 40 - szt sz + k) % 40 = nx := by
  have h1 := nxt_v hx
  have h2 := szt_v hz
  omega
theorem idx_ne {nx sz k : Nat} (hx : nx < 40) (hz : sz ≤ 40) (hk : k < szt sz) (h : ¬ k + 1 = szt sz) : (nxt nx + 40 - szt sz + k) % 40 ≠ nx := by
  have h1 := nxt_v hx
  have h2 := szt_v hz
  omega
theorem idx_full {nx k : Nat} (hx : nx < 40) (hk : k < szt 40) (h : ¬ k + 1 = szt 40) : k + 1 < 40 ∧ (nxt nx + 40 - szt 40 + k) % 40 = (nx + 40 - 40 + (k + 1)) % 40 := by
  have h1 := nxt_v hx
  have h2 := szt_v (Nat.le_refl 40)
  omega
theorem idx_old {nx sz k : Nat} (hx : nx < 40) (hz : sz < 40) (hk : k < szt sz) (h : ¬ k + 1 = szt sz) : k < sz ∧ (nxt nx + 40 - szt sz + k) % 40 = (nx + 40 - sz + k) % 40 := by
  have h1 := nxt_v hx
  have h2 := szt_v (show sz ≤ 40 by omega)
  omega
/-- one more row to go back to -/
theorem Inv_push {B im : gm_I} {lm lm' : gm_L} {l nm nk nj ns : Nat} (hI : Inv B lm l nm nk nj ns) {nx sz : Nat} (hx : nx < 40) (hz : sz ≤ 40) (hp : ∀ k, k < sz → rRel (B (25 + (nx + 40 - sz + k) % 40)) (fun i => B 120 (80 * k + i)) nm nk ns)
    (h1 : ∀ q, gs q = false → q ≠ 22 → q ≠ 23 → q ≠ 25 + nx → q ≠ 116 → q ≠ 120 → im q = B q) (h84 : ∀ k, gt k = true → k ≠ 54 → im 84 k = B 84 k)
    (h2 : im 23 2 = nI (nxt nx)) (h3 : im 23 3 = nI (szt sz)) (h4 : im 23 4 = B 23 4) (h54 : im 84 54 = nI (szt sz)) (hdone : ∀ j, j < 77 → im (25 + nx) j = B 22 j) (hhist : ∀ k i, k < szt sz → i < 80 → im 120 (80 * k + i) = hisN (B 120) (B 116) sz k i)
    (hr : rRel (im 22) (im 116) nm nk ns) (lk : LK lm lm') : Inv im lm' l nm nk nj ns := by
  obtain ⟨i1, i2, i3, i4, i5, i6, i7, i8⟩ := hI
  have hm7 := iR_nm i1
  have hk5 := iR_nk i1
  refine ⟨iRoll_eq (fun q hq => h1 q (gs_roll hq) (by omega) (by omega) (by omega) (by omega) (by omega)) (h84 18 rfl (by decide)) i1, hr, ?_, ?_, ?_, ?_, ?_, lmR_lk lk i8⟩
  · refine ⟨nxt nx, szt sz, by unfold nxt; split <;> omega, by unfold szt; split <;> omega, h2, h3, h54, fun k hk => ?_⟩
    by_cases hlast : k + 1 = szt sz
    · rw [idx_last hx hz hlast]
      refine rRel_eq hm7 hk5 i2 (fun j hj => hdone j hj) (fun j hj => ?_)
      rw [hhist k j hk hj]
      unfold hisN
      rw [if_pos hlast]
    · have hne := idx_ne hx hz hk hlast
      have hlt : (nxt nx + 40 - szt sz + k) % 40 < 40 := Nat.mod_lt _ (by decide)
      rw [h1 _ (gs_done hlt) (by omega) (by omega) (by omega) (by omega) (by omega)]
      by_cases h40 : sz = 40
      · subst h40
        obtain ⟨hk1, hix⟩ := idx_full hx hk hlast
        rw [hix]
        refine rRel_eq hm7 hk5 (hp (k + 1) hk1) (fun j hj => rfl) (fun j hj => ?_)
        rw [hhist k j hk hj]
        unfold hisN
        rw [if_neg hlast, if_pos rfl]
      · obtain ⟨hk1, hix⟩ := idx_old hx (by omega) hk hlast
        rw [hix]
        refine rRel_eq hm7 hk5 (hp k hk1) (fun j hj => rfl) (fun j hj => ?_)
        rw [hhist k j hk hj]
        unfold hisN
        rw [if_neg hlast, if_neg h40]
  · obtain ⟨hd, a1, a2, a3⟩ := i4
    refine ⟨hd, a1, by rw [h4]; exact a2, fun s hs => ?_⟩
    rw [h1 126 rfl (by decide) (by decide) (by omega) (by decide) (by decide), h1 127 rfl (by decide) (by decide) (by omega) (by decide) (by decide), h1 _ (gs_slot hs) (by omega) (by omega) (by omega) (by omega) (by omega)]
    exact a3 s hs
  · obtain ⟨t, a1, a2, a3, a4⟩ := i5
    refine ⟨t, a1, by rw [h1 0 rfl (by decide) (by decide) (by omega) (by decide) (by decide)]; exact a2, by rw [h84 61 rfl (by decide)]; exact a3, fun i hi => ?_⟩
    rw [h1 82 rfl (by decide) (by decide) (by omega) (by decide) (by decide), h1 83 rfl (by decide) (by decide) (by omega) (by decide) (by decide), h1 123 rfl (by decide) (by decide) (by omega) (by decide) (by decide), h1 124 rfl (by decide) (by decide) (by omega) (by decide) (by decide)]
    exact a4 i hi
  · obtain ⟨k, a1, a2, a3, a4⟩ := i6
    refine ⟨k, a1, by rw [h1 0 rfl (by decide) (by decide) (by omega) (by decide) (by decide)]; exact a2, by rw [h84 2 rfl (by decide)]; exact a3, fun i hi => ?_⟩
    rw [h1 85 rfl (by decide) (by decide) (by omega) (by decide) (by decide), h1 1 rfl (by decide) (by decide) (by omega) (by decide) (by decide)]
    exact a4 i hi
  · rw [h1 0 rfl (by decide) (by decide) (by omega) (by decide) (by decide), h84 17 rfl (by decide)]; exact i7
