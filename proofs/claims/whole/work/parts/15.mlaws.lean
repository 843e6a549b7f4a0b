/-! the reference: a law's value -/
def mPi (im : gm_I) (pi : Nat → Int32) : gm_I := fun q j => if q = 115 then pi j else im q j
theorem mPi_84 (im : gm_I) (pi : Nat → Int32) (j : Nat) : mPi im pi 84 j = im 84 j := rfl
theorem mPi_111 (im : gm_I) (pi : Nat → Int32) (j : Nat) : mPi im pi 111 j = im 111 j := rfl
theorem mPi_112 (im : gm_I) (pi : Nat → Int32) (j : Nat) : mPi im pi 112 j = im 112 j := rfl
theorem mPi_114 (im : gm_I) (pi : Nat → Int32) (j : Nat) : mPi im pi 114 j = im 114 j := rfl
theorem mPi_115 (im : gm_I) (pi : Nat → Int32) (j : Nat) : mPi im pi 115 j = pi j := rfl
theorem mPi_ne (im : gm_I) (pi : Nat → Int32) {q : Nat} (h : q ≠ 115) : mPi im pi q = im q := by funext j; simp [mPi, h]
theorem mPi_up (im : gm_I) (pi : Nat → Int32) (t : Nat) (v : Int32) : gm_up (mPi im pi) 115 t v = mPi im (upd pi t v) := by
  funext q j
  unfold gm_up mPi upd
  by_cases h : q = 115
  · subst h; by_cases h2 : j = t <;> simp [h2]
  · simp [h]
theorem mPi_self (im : gm_I) : mPi im (im 115) = im := by
  funext q j
  unfold mPi
  by_cases h : q = 115
  · subst h; simp
  · simp [h]
/-- a term: broken or not, the answer, the pile left -/
def mTk (cd ci va : Nat → Int32) (to : Nat) : Nat → Nat → Nat → (Nat → Int32) → Bool × Int32 × (Nat → Int32)
  | 0, _, _, pi => (false, pi 0, pi)
  | f + 1, c, top, pi =>
    if to ≤ c then (false, pi 0, pi)
    else if cd c = 0 then mTk cd ci va to f (c + 1) (top + 1) (upd pi top (ci c))
    else if cd c = 1 then mTk cd ci va to f (c + 1) (top + 1) (upd pi top (va (ci c).toNatClampNeg))
    else if cd c = 2 then mTk cd ci va to f (c + 1) (top - 1) (upd pi (top - 2) (pi (top - 2) + pi (top - 1)))
    else if cd c = 3 then mTk cd ci va to f (c + 1) (top - 1) (upd pi (top - 2) (pi (top - 2) - pi (top - 1)))
    else if cd c = 4 then mTk cd ci va to f (c + 1) (top - 1) (upd pi (top - 2) (pi (top - 2) * pi (top - 1)))
    else if pi (top - 1) = 0 then (true, 0, pi)
    else mTk cd ci va to f (c + 1) (top - 1) (upd pi (top - 2) (pi (top - 2) / pi (top - 1)))
/-- codes in order: never too few on the pile -/
def mWf (cd ci : Nat → Int32) (to : Nat) : Nat → Nat → Nat → Prop
  | 0, _, _ => True
  | f + 1, c, top => to ≤ c ∨ ((cd c = 0 ∧ mWf cd ci to f (c + 1) (top + 1)) ∨ (cd c = 1 ∧ (∃ i, i < 9 ∧ ci c = nI i) ∧ mWf cd ci to f (c + 1) (top + 1)) ∨ ((cd c = 2 ∨ cd c = 3 ∨ cd c = 4 ∨ cd c = 5) ∧ 2 ≤ top ∧ mWf cd ci to f (c + 1) (top - 1)))
noncomputable def mTIm (im : gm_I) (r : Bool × Int32 × (Nat → Int32)) : gm_I := if r.1 = true then gm_up (mPi im r.2.2) 84 48 1 else mPi im r.2.2
theorem M_term_loop (im : gm_I) (lm : gm_L) (fr : Int32) (to : Nat) (hto : to ≤ 840) : ∀ (f c top : Nat) (pi : Nat → Int32) (x5 x6 x7 : Value), to ≤ c + f → mWf (im 111) (im 112) to f c top → top + (to - c) ≤ 400 → c ≤ 841 → x5.category = 1 → x6.category = 1 → x7.category = 1 →
    gm_den 199 5 [.ref 84, .int fr, .int (nI to), .int (nI top), .int (nI c), x5, x6, x7] [] 128 gm_RF (mPi im pi) lm = some (some (.int (mTk (im 111) (im 112) (im 114) to f c top pi).2.1), 128, gm_RF, mTIm im (mTk (im 111) (im 112) (im 114) to f c top pi), lm) := by
  intro f
  induction f with
  | zero =>
    intro c top pi x5 x6 x7 h1 h2 h3 h4 c5 c6 c7
    have hle : nI to ≤ nI c := nI_le (by omega) (by omega)
    rw [LX12_termOf_5]
    simp (decide := true) only [QX12_termOf, hle, if_true, mTk, mTIm, mPi_115, show gm_in 0 400 = true from rfl, show (0 : Int32).toNatClampNeg = 0 from rfl, if_false]
  | succ f ih =>
    intro c top pi x5 x6 x7 h1 h2 h3 h4 c5 c6 c7
    rw [LX12_termOf_5]
    by_cases hp : to ≤ c
    · have hle : nI to ≤ nI c := nI_le hp (by omega)
      simp (decide := true) only [QX12_termOf, hle, hp, if_true, mTk, mTIm, mPi_115, show gm_in 0 400 = true from rfl, show (0 : Int32).toNatClampNeg = 0 from rfl, if_false]
    · have hle : ¬ nI to ≤ nI c := nI_ge (by omega) (by omega)
      have hin : gm_in (nI c) 840 = true := gm_in_nI (by omega) (by decide)
      have hcl : (nI c).toNatClampNeg = c := nI_clamp (by omega)
      have htin : gm_in (nI top) 400 = true := gm_in_nI (by omega) (by decide)
      have htcl : (nI top).toNatClampNeg = top := nI_clamp (by omega)
      rcases h2 with h2 | ⟨s0, hw⟩ | ⟨s1, ⟨i, hi, hai⟩, hw⟩ | ⟨hs, ht, hw⟩
      · omega
      · simp (decide := true) only [QX12_termOf, mPi_111, mPi_112, hle, if_true, if_false, hin, hcl, s0, c5, c6, c7, gm_cat_i, htin, htcl, mPi_up, nI_a1]
        rw [ih (c + 1) (top + 1) _ _ _ _ (by omega) hw (by omega) (by omega) rfl c6 c7]
        simp only [mTk, hp, if_false, s0, if_true]
      · have h9 : gm_in (nI i) 9 = true := gm_in_nI hi (by decide)
        have hicl : (nI i).toNatClampNeg = i := nI_clamp (by omega)
        simp (decide := true) only [QX12_termOf, mPi_111, mPi_112, mPi_114, hle, if_true, if_false, hin, hcl, s1, c5, c6, c7, gm_cat_i, htin, htcl, mPi_up, nI_a1, hai, h9, hicl]
        rw [ih (c + 1) (top + 1) _ _ _ _ (by omega) hw (by omega) (by omega) rfl c6 c7]
        simp (decide := true) only [mTk, hp, if_false, s1, if_true, hai, hicl]
      · have hs1 := nI_s1 (n := top) (by omega)
        have hm1 := nI_m1 (n := top - 1) (by omega)
        have e2 : top - 1 - 1 = top - 2 := by omega
        have hi1 : gm_in (nI (top - 1)) 400 = true := gm_in_nI (by omega) (by decide)
        have hc1 : (nI (top - 1)).toNatClampNeg = top - 1 := nI_clamp (by omega)
        have hi2 : gm_in (nI (top - 2)) 400 = true := gm_in_nI (by omega) (by decide)
        have hc2 : (nI (top - 2)).toNatClampNeg = top - 2 := nI_clamp (by omega)
        rcases hs with s | s | s | s
        · simp (decide := true) only [QX12_termOf, mPi_111, mPi_112, mPi_115, hle, if_true, if_false, hin, hcl, s, c5, c6, c7, gm_cat_i, hs1, hm1, e2, hi1, hc1, hi2, hc2, mPi_up, nI_a1]
          rw [ih (c + 1) (top - 1) _ _ _ _ (by omega) hw (by omega) (by omega) rfl rfl rfl]
          simp (decide := true) only [mTk, hp, if_false, s, if_true]
        · simp (decide := true) only [QX12_termOf, mPi_111, mPi_112, mPi_115, hle, if_true, if_false, hin, hcl, s, c5, c6, c7, gm_cat_i, hs1, hm1, e2, hi1, hc1, hi2, hc2, mPi_up, nI_a1]
          rw [ih (c + 1) (top - 1) _ _ _ _ (by omega) hw (by omega) (by omega) rfl rfl rfl]
          simp (decide := true) only [mTk, hp, if_false, s, if_true]
        · simp (decide := true) only [QX12_termOf, mPi_111, mPi_112, mPi_115, hle, if_true, if_false, hin, hcl, s, c5, c6, c7, gm_cat_i, hs1, hm1, e2, hi1, hc1, hi2, hc2, mPi_up, nI_a1]
          rw [ih (c + 1) (top - 1) _ _ _ _ (by omega) hw (by omega) (by omega) rfl rfl rfl]
          simp (decide := true) only [mTk, hp, if_false, s, if_true]
        · by_cases hz : pi (top - 1) = 0
          · simp (decide := true) only [QX12_termOf, mPi_111, mPi_112, mPi_115, hle, if_true, if_false, hin, hcl, s, c5, c6, c7, gm_cat_i, hs1, hm1, e2, hi1, hc1, hi2, hc2, hz, mTk, hp, mTIm]
          · simp (decide := true) only [QX12_termOf, mPi_111, mPi_112, mPi_115, hle, if_true, if_false, hin, hcl, s, c5, c6, c7, gm_cat_i, hs1, hm1, e2, hi1, hc1, hi2, hc2, hz, mPi_up, nI_a1]
            rw [ih (c + 1) (top - 1) _ _ _ _ (by omega) hw (by omega) (by omega) rfl rfl rfl]
            simp (decide := true) only [mTk, hp, if_false, s, if_true, hz]
/-- only what was put on the pile is looked at (if something was) -/
theorem mTk_stack (cd ci va : Nat → Int32) (to : Nat) : ∀ (f c top : Nat) (pi pj : Nat → Int32), to ≤ c + f → (∀ j, j < top → pi j = pj j) → mWf cd ci to f c top → 0 < top ∨ c < to → (mTk cd ci va to f c top pi).1 = (mTk cd ci va to f c top pj).1 ∧ (mTk cd ci va to f c top pi).2.1 = (mTk cd ci va to f c top pj).2.1 := by
  intro f
  induction f with
  | zero => intro c top pi pj h1 h h2 h3; exact ⟨rfl, h 0 (by omega)⟩
  | succ f ih =>
    intro c top pi pj h1 h h2 h3
    have hup : ∀ (t m : Nat) (v : Int32), m ≤ t + 1 → (∀ j, j < t → pi j = pj j) → ∀ j, j < m → upd pi t v j = upd pj t v j := by
      intro t m v hm ht j hj
      unfold upd
      by_cases hjt : j = t
      · simp [hjt]
      · simp [hjt]; exact ht j (by omega)
    by_cases hp : to ≤ c
    · simp only [mTk, hp, if_true]
      exact ⟨trivial, h 0 (by omega)⟩
    · rcases h2 with h2 | ⟨s0, hw⟩ | ⟨s1, ⟨i, hi, hai⟩, hw⟩ | ⟨hs, ht, hw⟩
      · omega
      · simp only [mTk, hp, s0, if_true, if_false]
        exact ih _ _ _ _ (by omega) (hup top _ _ (Nat.le_refl _) h) hw (by omega)
      · simp (decide := true) only [mTk, hp, s1, if_true, if_false]
        exact ih _ _ _ _ (by omega) (hup top _ _ (Nat.le_refl _) h) hw (by omega)
      · have e1 : pi (top - 1) = pj (top - 1) := h _ (by omega)
        have e2 : pi (top - 2) = pj (top - 2) := h _ (by omega)
        have hk : ∀ v : Int32, ∀ j, j < top - 1 → upd pi (top - 2) v j = upd pj (top - 2) v j := fun v => hup (top - 2) (top - 1) v (by omega) (fun j hj => h j (by omega))
        rcases hs with s | s | s | s
        · simp (decide := true) only [mTk, hp, s, if_true, if_false, e1, e2]
          exact ih _ _ _ _ (by omega) (hk _) hw (by omega)
        · simp (decide := true) only [mTk, hp, s, if_true, if_false, e1, e2]
          exact ih _ _ _ _ (by omega) (hk _) hw (by omega)
        · simp (decide := true) only [mTk, hp, s, if_true, if_false, e1, e2]
          exact ih _ _ _ _ (by omega) (hk _) hw (by omega)
        · simp (decide := true) only [mTk, hp, s, if_true, if_false, e1, e2]
          by_cases hz : pj (top - 1) = 0
          · simp only [hz, if_true]; exact ⟨trivial, trivial⟩
          · simp only [hz, if_false]
            exact ih _ _ _ _ (by omega) (hk _) hw (by omega)
