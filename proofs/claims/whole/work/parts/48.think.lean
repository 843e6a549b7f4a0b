/-! questions: thinks -/
theorem bs2_all : ∀ a : Fin 8, ∀ M : Fin 256, M.val < 2 ^ a.val → nI (M.val + 2 ^ a.val) ||| (1 <<< (nI a.val &&& 31)) = nI (M.val + 2 ^ a.val) := by decide +kernel
theorem bs2 {M a : Nat} (ha : a < 8) (hM : M < 2 ^ a) : nI (M + 2 ^ a) ||| (1 <<< (nI a &&& 31)) = nI (M + 2 ^ a) := by
  have h8 : 2 ^ a ≤ 2 ^ 7 := Nat.pow_le_pow_right (by decide) (by omega)
  exact bs2_all ⟨a, ha⟩ ⟨M, by omega⟩ hM
/-- his speech if he were on a side -/
def tV (B : gm_I) (ns a s : Nat) (sl : Int32) : Nat → Int32 := if B 22 (10 * a + 1) = -2 then upd (upd (cV B a) 6 sl) 4 (if nI ns ≤ nI s + 1 then 0 else nI s + 1) else upd (cV B a) 6 sl
def thA (B : gm_I) (nj ns k a s : Nat) (sl : Int32) : Bool := ast B (nI a) (nI (vS B nj (tV B ns a s sl) 255)) k
section
variable {B : gm_I} {l nm nk nj ns : Nat}
theorem C_th_step (hR : iRoll B l nm nk nj ns) {t : Nat} (ht : t ≤ 20) (h11 : B 0 11 = nI t) {k : Nat} (hk : k ≤ t) {a : Nat} (ha : a < 7) (s : Nat) (X x : Int32) (hx : ¬ (1 : Int32) < x) (im : gm_I) (ho : Off B im) (lm : gm_L) : ∃ im', Off B im' ∧ gm_den 141 75 [.ref 0, .int (nI a), .int (nI k), .int X, .int (nI s), .int x] [] 128 gm_RF im lm = gm_den 141 75 [.ref 0, .int (nI a), .int (nI k), .int (if thA B nj ns k a s x = true then X ||| (1 <<< (nI s &&& 31)) else X), .int (nI s), .int (x + 1)] [] 128 gm_RF im' lm := by
  have e11 : im 11 0 = nI ns := iR_110 hR ho
  have fin : ∀ (im1 : gm_I), Off B im1 → vEq (im1 69) (tV B ns a s x) → ∃ im', Off B im' ∧ gm_cont 141 145 [.ref 0, .int (nI a), .int (nI k), .int X, .int (nI s), .int x] [.ref 69, .int (nI k), .int (nI a), .ref 0] 128 (gm_den 71 0 [.ref 69] [] 128 gm_RF im1 lm) = gm_den 141 75 [.ref 0, .int (nI a), .int (nI k), .int (if thA B nj ns k a s x = true then X ||| (1 <<< (nI s &&& 31)) else X), .int (nI s), .int (x + 1)] [] 128 gm_RF im' lm := by
    intro im1 o1 hv
    obtain ⟨im2, h2, f2⟩ := C_goodB hR o1 hv lm
    have o2 := o1.tr (f2.off fr19)
    obtain ⟨im3, h3, f3⟩ := C_totB hR o2 (by rw [f2 69 (by decide)]; exact hv) (vGd B (tV B ns a s x)) lm
    have o3 := o2.tr (f3.off fr19)
    have h4 := C_isAsTold o3 ht h11 (nI a) (nI (vS B nj (tV B ns a s x) 255)) hk lm
    rw [show ast B (nI a) (nI (vS B nj (tV B ns a s x) 255)) k = thA B nj ns k a s x from rfl] at h4
    refine ⟨im3, o3, ?_⟩
    have h3' : gm_den 73 0 [.ref 69, .int (vGd B (tV B ns a s x)), .null, .null] [] 128 gm_RF im2 lm = some (some (.int (nI (vS B nj (tV B ns a s x) 255))), 128, gm_RF, im3, lm) := h3
    rw [h2]
    cases hb : thA B nj ns k a s x with
    | true =>
      rw [hb] at h4
      simp (decide := true) only [QX11_thinks, gm_cont_i, h3', h4, b32_t, if_true, if_false]
    | false =>
      rw [hb] at h4
      simp (decide := true) only [QX11_thinks, gm_cont_i, h3', h4, b32_f, if_true, if_false]
  by_cases hs : B 22 (10 * a + 1) = -2
  · let im1 := gm_up (gm_up (cTake im a) 69 6 x) 69 4 (if nI ns ≤ nI s + 1 then 0 else nI s + 1)
    have f1 : Fr [69] im im1 := ((cTake_fr im a).up (by simp)).up (by simp)
    obtain ⟨im', o', h'⟩ := fin im1 (ho.tr (f1.off (by decide))) (by
      show vEq (gm_up (gm_up (cTake im a) 69 6 x) 69 4 _ 69) _
      rw [gu_upd, gu_upd]
      unfold tV
      rw [if_pos hs]
      exact ((cTake_v ho a).up 6 x).up 4 _)
    refine ⟨im', o', ?_⟩
    rw [← h', LX11_thinks_75]
    have e9 : gm_up (cTake im a) 69 6 x 69 9 = 0 := by
      rw [gu_nk (by decide)]
      have := cTake_v ho a 9 (by decide) (by decide)
      rw [this]
      simp [cV, hs]
    have e110 : gm_up (cTake im a) 69 6 x 11 0 = nI ns := by
      rw [gu_ne (by decide), cTake_fr im a 11 (by decide)]; exact e11
    simp (decide := true) only [QX11_thinks, hx, if_true, if_false, C_take a im lm ha, gm_cont_v, e9, e110, C_behind, gm_cont_i]
    rfl
  · let im1 := gm_up (cTake im a) 69 6 x
    have f1 : Fr [69] im im1 := (cTake_fr im a).up (by simp)
    obtain ⟨im', o', h'⟩ := fin im1 (ho.tr (f1.off (by decide))) (by
      show vEq (gm_up (cTake im a) 69 6 x 69) _
      rw [gu_upd]
      unfold tV
      rw [if_neg hs]
      exact (cTake_v ho a).up 6 x)
    refine ⟨im', o', ?_⟩
    rw [← h', LX11_thinks_75]
    have e9 : gm_up (cTake im a) 69 6 x 69 9 = 1 := by
      rw [gu_nk (by decide)]
      have := cTake_v ho a 9 (by decide) (by decide)
      rw [this]
      simp [cV, hs]
    simp (decide := true) only [QX11_thinks, hx, if_true, if_false, C_take a im lm ha, gm_cont_v, e9]
    rfl
theorem C_th_loop (hR : iRoll B l nm nk nj ns) {t : Nat} (ht : t ≤ 20) (h11 : B 0 11 = nI t) {k : Nat} (hk : k ≤ t) {a : Nat} (ha : a < 7) (lm : gm_L) : ∀ (w s : Nat) (im : gm_I) (x5 : Value), s + w = ns → Off B im → x5.category = 1 → ∃ im', gm_den 141 60 [.ref 0, .int (nI a), .int (nI k), .int (nI (gM (fun s => thA B nj ns k a s 0 || thA B nj ns k a s 1) s)), .int (nI s), x5] [] 128 gm_RF im lm = some (some (.int (nI (gM (fun s => thA B nj ns k a s 0 || thA B nj ns k a s 1) ns))), 128, gm_RF, im', lm) ∧ Off B im' := by
  have hns := iR_ns hR
  intro w
  induction w with
  | zero =>
    intro s im x5 hw ho c5
    have : s = ns := by omega
    subst this
    refine ⟨im, ?_, ho⟩
    rw [LX11_thinks_60]
    simp only [QX11_thinks, iR_110 hR ho, nI_le (Nat.le_refl s) (show s < 2 ^ 31 by omega), if_true]
  | succ w ih =>
    intro s im x5 hw ho c5
    have hlt : ¬ nI ns ≤ nI s := nI_ge (by omega) (by omega)
    have hM := gM_lt (fun s => thA B nj ns k a s 0 || thA B nj ns k a s 1) s
    generalize hX : gM (fun s => thA B nj ns k a s 0 || thA B nj ns k a s 1) s = X at hM ⊢
    obtain ⟨im1, o1, h1⟩ := C_th_step hR ht h11 hk ha s (nI X) 0 (by decide) im ho lm
    obtain ⟨im2, o2, h2⟩ := C_th_step hR ht h11 hk ha s (if thA B nj ns k a s 0 = true then nI X ||| (1 <<< (nI s &&& 31)) else nI X) 1 (by decide) im1 o1 lm
    have e : (if thA B nj ns k a s 1 = true then (if thA B nj ns k a s 0 = true then nI X ||| (1 <<< (nI s &&& 31)) else nI X) ||| (1 <<< (nI s &&& 31)) else (if thA B nj ns k a s 0 = true then nI X ||| (1 <<< (nI s &&& 31)) else nI X)) = nI (gM (fun s => thA B nj ns k a s 0 || thA B nj ns k a s 1) (s + 1)) := by
      simp only [gM, hX]
      have b1 := bs (show s < 8 by omega) hM
      have b2 := bs2 (show s < 8 by omega) hM
      cases thA B nj ns k a s 0 <;> cases thA B nj ns k a s 1 <;> simp [b1, b2]
    rw [e] at h2
    obtain ⟨im', h3, h4⟩ := ih (s + 1) im2 (.int 2) (by omega) o2 rfl
    refine ⟨im', ?_, h4⟩
    rw [← h3]
    have e0 : gm_den 141 60 [.ref 0, .int (nI a), .int (nI k), .int (nI X), .int (nI s), x5] [] 128 gm_RF im lm = gm_den 141 75 [.ref 0, .int (nI a), .int (nI k), .int (nI X), .int (nI s), .int 0] [] 128 gm_RF im lm := by
      rw [LX11_thinks_60]
      simp only [QX11_thinks, iR_110 hR ho, hlt, if_false, gm_cat_i, c5]
    rw [e0, h1, show (0 + 1 : Int32) = 1 from rfl, h2, show (1 + 1 : Int32) = 2 from rfl, LX11_thinks_75]
    simp (decide := true) only [QX11_thinks, if_true, nI_a1]
theorem mV_side {X : gm_I} (hR : iRoll B l nm nk nj ns) (ho : Off B X) (hr : rRel (B 22) (B 116) nm nk ns) {a s : Nat} (ha : a < nm) (h117 : ∀ j, j < 80 → j ≠ a → X 117 j = B 116 j) (hs : s < ns) (hxa : X 117 a = nI s) (hsp : ¬ B 116 (21 + a) = -2) (sl : Int32) : vEq (mV X l a (X 117 (28 + a)) sl) (tV B ns a s sl) := by
  have hm7 := iR_nm hR
  have hns := iR_ns hR
  have hY := mV_cV1 (im := gm_up X 117 a (B 116 a)) hR (ho.up rfl (by decide)) hr (fun j hj => by
    by_cases e : j = a
    · subst e; rw [gu_eq]
    · rw [gu_nk e]; exact h117 j hj e) ha hsp sl
  have e7 := rR_left hr ha
  have hne : ∀ c, 7 ≤ c → c + a ≠ a := fun c hc => by omega
  intro i h1 h2
  have hYi := hY i h1 h2
  have h4 : mPl (B 116 (7 + a)) (nI s) (nI ns) = sPl (B 116 (7 + a)) (nI s) (nI ns) := (mPl_ok hns ⟨s, hs, rfl⟩ e7.2).1
  by_cases i4 : i = 4
  · subst i4
    have l1 : mV X l a (X 117 (28 + a)) sl 4 = mPl (B 116 (7 + a)) (nI s) (nI ns) := by
      simp only [mV]
      rw [h117 (7 + a) (by omega) (hne 7 (by omega)), hxa, iR_93 hR ho]
      simp
    rw [l1, h4]
    unfold tV sPl
    rw [e7.1]
    by_cases hl : B 116 (7 + a) = -2
    · rw [if_pos hl, if_pos hl]; simp [upd]
    · rw [if_neg hl, if_neg hl]
      simp [upd, cV, sPl, e7.1, hl]
  · have l1 : mV X l a (X 117 (28 + a)) sl i = mV (gm_up X 117 a (B 116 a)) l a (gm_up X 117 a (B 116 a) 117 (28 + a)) sl i := by
      unfold mV
      rw [gu_nk (hne 28 (by omega)), gu_nk (hne 35 (by omega)), gu_nk (hne 7 (by omega)), gu_nk (hne 49 (by omega)), gu_nk (hne 56 (by omega)), gu_nk (show 75 ≠ a by omega), gu_row (show 96 ≠ 117 by decide), gu_row (show 93 ≠ 117 by decide)]
      simp [i4]
    rw [l1, hYi]
    unfold tV
    by_cases hl : B 22 (10 * a + 1) = -2
    · rw [if_pos hl]; simp [upd, i4]
    · rw [if_neg hl]
/-- what is told of him is so, on a side -/
def thM (B : gm_I) (nj ns k a s : Nat) (sl : Bool) : Bool := if spB B a then thA B nj ns k a s (b32 sl) else knw B (nI a) k
theorem M_isSoT {X : gm_I} (hR : iRoll B l nm nk nj ns) (ho : Off B X) (hr : rRel (B 22) (B 116) nm nk ns) {a s : Nat} (ha : a < nm) (h117 : ∀ j, j < 80 → j ≠ a → X 117 j = B 116 j) (hs : s < ns) (hxa : X 117 a = nI s) {t : Nat} (ht : t ≤ 20) (htl : ∀ i, i < t → B 82 i = B 123 i ∧ B 83 i = B 124 i) (sl : Bool) {k : Nat} (hk : k ≤ t) (lm : gm_L) : ∃ im', gm_den 267 0 [.ref 84, .int (nI a), .int (b32 sl), .int (nI k), .null] [] 128 gm_RF X lm = some (some (.int (b32 (thM B nj ns k a s sl))), 128, gm_RF, im', lm) ∧ mOff X im' := by
  have hm7 := iR_nm hR
  have n1 : Value.category .null = 1 := rfl
  have htn := top_neg (iR_nk hR) hr ha
  have e21 := h117 (21 + a) (by omega) (by omega)
  by_cases hsp : B 116 (21 + a) = -2
  · have hspB : spB B a = false := by simp [spB, hsp]
    have hc : thM B nj ns k a s sl = knw B (nI a) k := by simp [thM, hspB]
    have h1 := M_isSo_sil hR ho ht htl ha (by rw [e21]; exact htn.1.mpr hsp) (b32 sl) hk lm k 0 (by omega)
    refine ⟨X, ?_, mOff.rf X⟩
    rw [hc]
    simp only [QX12_isSo, gm_cat_i, n1]
    exact h1
  · have hspB : spB B a = true := by simp [spB, hsp]
    have hc : thM B nj ns k a s sl = thA B nj ns k a s (b32 sl) := by simp [thM, hspB]
    have hok := rRel_ok (iR_ns hR) hr
    have hold : rOld (X 117) nm := fun b hb => by
      rw [h117 (49 + b) (by omega) (by omega), h117 (56 + b) (by omega) (by omega)]
      exact hok.2 b hb
    obtain ⟨im', h1, h2⟩ := M_isSo_sp hR ho ht htl ha (by rw [e21]; exact fun hh => hsp (htn.1.mp hh)) hold (b32 sl) (nI (vS B nj (tV B ns a s (b32 sl)) 255)) (by rw [vT_S _ _ _ (iR_nj hR), vS_eq (mV_side hR ho hr ha h117 hs hxa hsp (b32 sl))]) hk lm k 0 X (by omega) (mOff.rf X)
    refine ⟨im', ?_, h2⟩
    rw [hc]
    simp only [QX12_isSo, gm_cat_i, n1]
    exact h1
theorem M_th_loop (hR : iRoll B l nm nk nj ns) (hr : rRel (B 22) (B 116) nm nk ns) {t : Nat} (ht : t ≤ 20) (htl : ∀ i, i < t → B 82 i = B 123 i ∧ B 83 i = B 124 i) {k : Nat} (hk : k ≤ t) {a : Nat} (ha : a < nm) (lm : gm_L) : ∀ (w s : Nat) (im : gm_I), s + w = ns → Off B im → (∀ j, j < 80 → j ≠ a → im 117 j = B 116 j) → ∃ im', gm_den 270 31 [.ref 84, .int (nI a), .int (nI k), .int (nI (gM (fun s => thM B nj ns k a s false || thM B nj ns k a s true) s)), .int (nI s)] [] 128 gm_RF im lm = some (some (.int (nI (gM (fun s => thM B nj ns k a s false || thM B nj ns k a s true) ns))), 128, gm_RF, im', lm) ∧ Off B im' := by
  have hns := iR_ns hR
  have hm7 := iR_nm hR
  have hl2 := iR_l hR
  intro w
  induction w with
  | zero =>
    intro s im hw ho h117
    have : s = ns := by omega
    subst this
    refine ⟨im, ?_, ho⟩
    rw [LX12_thinks_31]
    simp only [QX12_thinks, iR_18 hR ho, i2 l hl2, iR_93 hR ho, nI_le (Nat.le_refl s) (show s < 2 ^ 31 by omega), if_true]
  | succ w ih =>
    intro s im hw ho h117
    have hlt : ¬ nI ns ≤ nI s := nI_ge (by omega) (by omega)
    let X := gm_up im 117 a (nI s)
    have oX : Off B X := ho.up rfl (by decide)
    have rX : ∀ j, j < 80 → j ≠ a → X 117 j = B 116 j := fun j hj hja => by show gm_up im 117 a _ 117 j = _; rw [gu_nk hja]; exact h117 j hj hja
    have aX : X 117 a = nI s := gu_eq
    obtain ⟨im1, h1, m1⟩ := M_isSoT hR oX hr ha rX (show s < ns by omega) aX ht htl false hk lm
    have o1 := oX.tr m1.off
    have e117 : im1 117 = X 117 := m1.1 117 (by decide) (by decide) (by decide)
    have r1 : ∀ j, j < 80 → j ≠ a → im1 117 j = B 116 j := fun j hj hja => by rw [e117]; exact rX j hj hja
    obtain ⟨im2, h2, m2⟩ := M_isSoT hR o1 hr ha r1 (show s < ns by omega) (by rw [e117]; exact aX) ht htl true hk lm
    have o2 := o1.tr m2.off
    have e117b : im2 117 = X 117 := by rw [m2.1 117 (by decide) (by decide) (by decide), e117]
    have r2 : ∀ j, j < 80 → j ≠ a → im2 117 j = B 116 j := fun j hj hja => by rw [e117b]; exact rX j hj hja
    have hM := gM_lt (fun s => thM B nj ns k a s false || thM B nj ns k a s true) s
    have b1 := bs (show s < 8 by omega) hM
    simp only [b32_f] at h1
    simp only [b32_t] at h2
    rw [LX12_thinks_31]
    have hii : gm_in (nI a) 80 = true ∧ (nI a).toNatClampNeg = a := ⟨gm_in_nI (by omega) (by decide), nI_clamp (by omega)⟩
    cases hc1 : thM B nj ns k a s false with
    | true =>
      have e : gM (fun s => thM B nj ns k a s false || thM B nj ns k a s true) (s + 1) = gM (fun s => thM B nj ns k a s false || thM B nj ns k a s true) s + 2 ^ s := by simp [gM, hc1]
      obtain ⟨im', h3, h4⟩ := ih (s + 1) im1 (by omega) o1 r1
      rw [e] at h3
      rw [hc1] at h1
      refine ⟨im', ?_, h4⟩
      simp (decide := true) only [QX12_thinks, iR_18 hR ho, i2 l hl2, iR_93 hR ho, hlt, if_false, if_true, hii]
      rw [show gm_up im 117 a (nI s) = X from rfl, h1]
      simp (decide := true) only [QX12_thinks, gm_cont_i, b32_t, if_true, if_false]
      rw [b1, nI_a1]
      exact h3
    | false =>
      rw [hc1] at h1
      cases hc2 : thM B nj ns k a s true with
      | true =>
        have e : gM (fun s => thM B nj ns k a s false || thM B nj ns k a s true) (s + 1) = gM (fun s => thM B nj ns k a s false || thM B nj ns k a s true) s + 2 ^ s := by simp [gM, hc2]
        obtain ⟨im', h3, h4⟩ := ih (s + 1) im2 (by omega) o2 r2
        rw [e] at h3
        rw [hc2] at h2
        refine ⟨im', ?_, h4⟩
        simp (decide := true) only [QX12_thinks, iR_18 hR ho, i2 l hl2, iR_93 hR ho, hlt, if_false, if_true, hii]
        rw [show gm_up im 117 a (nI s) = X from rfl, h1]
        simp (decide := true) only [QX12_thinks, gm_cont_i, b32_f, b32_t, if_true, if_false, h2]
        rw [b1, nI_a1]
        exact h3
      | false =>
        have e : gM (fun s => thM B nj ns k a s false || thM B nj ns k a s true) (s + 1) = gM (fun s => thM B nj ns k a s false || thM B nj ns k a s true) s := by simp [gM, hc1, hc2]
        obtain ⟨im', h3, h4⟩ := ih (s + 1) im2 (by omega) o2 r2
        rw [e] at h3
        rw [hc2] at h2
        refine ⟨im', ?_, h4⟩
        simp (decide := true) only [QX12_thinks, iR_18 hR ho, i2 l hl2, iR_93 hR ho, hlt, if_false, if_true, hii]
        rw [show gm_up im 117 a (nI s) = X from rfl, h1]
        simp (decide := true) only [QX12_thinks, gm_cont_i, b32_f, if_true, if_false, h2, nI_a1]
        exact h3
end
theorem A_thinks (a k : Int32) : Agr 141 270 [.ref 0, .int a, .int k, .null, .null, .null] [.ref 84, .int a, .int k, .null, .null] := by
  refine agrQ ?_
  intro B lm l nm nk nj ns hI
  obtain ⟨hR, hr, -, -, ⟨t, ht, h11, h61, htl⟩, -⟩ := hI
  have hm7 := iR_nm hR
  have hns := iR_ns hR
  have n1 : Value.category .null = 1 := rfl
  have hin : ∀ (im : gm_I) (lm1 : gm_L), gm_den 200 0 [.int k, .int 0, .int (nI t)] [] 128 gm_RF im lm1 = some (some (.int (b32 (okI (t + 1) k))), 128, gm_RF, im, lm1) := fun im lm1 => by
    have := Mg_in (n := t + 1) (by omega) k im lm1
    rw [show nI (t + 1) - 1 = nI t from nI_m1 (n := t + 1) (by omega)] at this
    exact this
  cases hga : okI nm a with
  | false =>
    refine ⟨-1, ⟨B, lm, ?_, Off.rf B, LK.rf lm⟩, fun im lm1 ho hk => ⟨im, lm1, ?_, ho, hk⟩⟩
    · simp (decide := true) only [QX11_thinks, Cg_man hR (Off.rf B), hga, b32_f, gm_cont_i, if_true, if_false]
    · simp (decide := true) only [QX12_thinks, Mg_man hR ho, hga, b32_f, gm_cont_i, if_true, if_false]
  | true =>
    cases hg : okI (t + 1) k with
    | false =>
      refine ⟨-1, ⟨B, lm, ?_, Off.rf B, LK.rf lm⟩, fun im lm1 ho hk => ⟨im, lm1, ?_, ho, hk⟩⟩
      · rcases okI_f hg with h | ⟨h, h2⟩
        · simp (decide := true) only [QX11_thinks, Cg_man hR (Off.rf B), hga, b32_t, gm_cont_i, h, if_true, if_false]
        · have h3 : nI t < k := Int32.lt_of_lt_of_le (nI_lt (Nat.lt_succ_self t) (by omega)) h2
          simp (decide := true) only [QX11_thinks, Cg_man hR (Off.rf B), hga, b32_t, gm_cont_i, h, h11, Int32.not_le.mpr h3, if_true, if_false]
      · simp (decide := true) only [QX12_thinks, Mg_man hR ho, hga, ho.2 61 rfl, h61, hin, hg, b32_f, b32_t, gm_cont_i, if_true, if_false]
    | true =>
      have hkt := okI_tt hg
      obtain ⟨q, hq, rfl⟩ := okI_t (by omega) hg
      obtain ⟨j, hj, rfl⟩ := okI_t (by omega) hga
      have hj7 : j < 7 := by omega
      have hqt : nI q ≤ nI t := nI_le (by omega) (by omega)
      have htc := (rR_top hr hj).1
      have hM : ∀ im lm1, Off B im → LK lm lm1 → ∃ im1 lm2, gm_den 270 0 [.ref 84, .int (nI j), .int (nI q), .null, .null] [] 128 gm_RF im lm1 = some (some (.int (nI (gM (fun s => thM B nj ns q j s false || thM B nj ns q j s true) ns))), 128, gm_RF, im1, lm2) ∧ Off B im1 ∧ LK lm lm2 := by
        intro im lm1 ho hk
        obtain ⟨jm1, c1, p1, r1, -, -⟩ := M_copies hR ho lm1
        obtain ⟨jm2, h2, o2⟩ := M_th_loop hR hr ht htl (show q ≤ t by omega) hj lm1 ns 0 jm1 (by omega) p1 (fun i hi _ => r1 i hi)
        refine ⟨jm2, lm1, ?_, o2, hk⟩
        rw [← h2]
        simp (decide := true) only [QX12_thinks, Mg_man hR ho, hga, ho.2 61 rfl, h61, hin, hg, b32_t, gm_cont_i, gm_cont_v, if_true, if_false, c1, gm_cat_i, n1]
        rfl
      by_cases hsp : B 116 (21 + j) = -2
      · have hspB : spB B j = false := by simp [spB, hsp]
        have hkn := C_isKnown (Off.rf B) ht h11 (nI j) (show q ≤ t by omega) lm
        have eM : gM (fun s => thM B nj ns q j s false || thM B nj ns q j s true) ns = gM (fun _ => knw B (nI j) q) ns := gM_ext (fun s _ => by simp [thM, hspB])
        refine ⟨nI (gM (fun _ => knw B (nI j) q) ns), ⟨B, lm, ?_, Off.rf B, LK.rf lm⟩, by rw [← eM]; exact hM⟩
        cases hkk : knw B (nI j) q with
        | true =>
          rw [hkk] at hkn
          simp (decide := true) only [QX11_thinks, Cg_man hR (Off.rf B), hga, b32_t, b32_f, gm_cont_i, hkt.1, h11, hqt, if_true, if_false, Cg_sil (Off.rf B) hj7, htc, hsp, hkn, Bool.not_true, iR_110 hR (Off.rf B)]
          rcases hns with rfl | rfl <;> rfl
        | false =>
          rw [hkk] at hkn
          simp (decide := true) only [QX11_thinks, Cg_man hR (Off.rf B), hga, b32_t, b32_f, gm_cont_i, hkt.1, h11, hqt, if_true, if_false, Cg_sil (Off.rf B) hj7, htc, hsp, hkn, Bool.not_false]
          rcases hns with rfl | rfl <;> rfl
      · have hspB : spB B j = true := by simp [spB, hsp]
        have eM : gM (fun s => thM B nj ns q j s false || thM B nj ns q j s true) ns = gM (fun s => thA B nj ns q j s 0 || thA B nj ns q j s 1) ns := gM_ext (fun s _ => by simp [thM, hspB, b32])
        obtain ⟨im1, h1, o1⟩ := C_th_loop hR ht h11 (show q ≤ t by omega) hj7 lm ns 0 B .null (by omega) (Off.rf B) rfl
        refine ⟨nI (gM (fun s => thA B nj ns q j s 0 || thA B nj ns q j s 1) ns), ⟨im1, lm, ?_, o1, LK.rf lm⟩, by rw [← eM]; exact hM⟩
        rw [← h1]
        simp (decide := true) only [QX11_thinks, Cg_man hR (Off.rf B), hga, b32_t, gm_cont_i, hkt.1, h11, hqt, if_true, if_false, Cg_sil (Off.rf B) hj7, htc, hsp, gm_cat_i, n1]
        rfl
