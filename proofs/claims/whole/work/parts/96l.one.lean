/-! the reference's tells: each, from one end to the next -/
/-- laws that were told -/
def mLws (im : gm_I) (K V : Nat → Nat) (s t : Nat) (la : Nat → Nat) (bb cb : Nat) : Prop := (im 84 35 = nI (130 * s + bb) ∧ im 84 41 = nI (420 * s + cb) ∧ 4 * bb ≤ t ∧ cb ≤ t) ∧ ∀ k, k < 3 → (la k = 0 ∧ im 104 (3 * s + k) = 0 ∧ im 105 (3 * s + k) = 0) ∨ ∃ e b c, lwOk K t (la k) e ∧ lfP (lwAt K V (la k) e) (e - la k + 1) ∧ im 104 (3 * s + k) = nI (130 * s + b) ∧ im 105 (3 * s + k) = nI (130 * s + b + (lwAt K V (la k) e).nb) ∧ mReg im (lwAt K V (la k) e) (130 * s + b) (420 * s + c) ∧ b + (lwAt K V (la k) e).nb ≤ bb ∧ c + (lwAt K V (la k) e).cn ≤ cb
/-- all that stands between tells -/
def pI (K V P W : Nat → Nat) (M s : Nat) (im : gm_I) (lm : gm_L) (t : Nat) : Prop := okT K g0 t ∧ (gst K g0 t).w = 0 ∧ pO im t ∧ mTks im lm K V P W (M + 1) ∧ im 84 12 = 0 ∧ im 84 19 = nI s ∧ wR im P (foA K V t).wk (foA K V t).wt ∧ ((foA K V t).wk ≤ 5 ∧ (¬ (foA K V t).wk = 0 → (foA K V t).wt < t)) ∧ im 84 20 = nI ((foA K V t).nm + (foA K V t).nk + (foA K V t).nj) ∧ nmR lm K W ((foA K V t).nm + (foA K V t).nk + (foA K V t).nj) t ∧ pA im V s (foA K V t) ∧ ∃ bb cb, mLws im K V s t (foA K V t).la bb cb
/-- the frame of the whole parse -/
def mF (s : Nat) (im im' : gm_I) : Prop := (∀ q, q ≠ 84 → (q < 93 ∨ 113 < q) → im' q = im q) ∧ (∀ j, j ∉ [11, 12, 13, 14, 15, 16, 20, 35, 41, 45] → im' 84 j = im 84 j) ∧ (∀ q j, 93 ≤ q → q ≤ 112 → ¬ (s * sWd q ≤ j ∧ j < s * sWd q + sWd q) → im' q j = im q j)
theorem mF.rf (s : Nat) (im : gm_I) : mF s im im := ⟨fun _ _ _ => rfl, fun _ _ => rfl, fun _ _ _ _ _ => rfl⟩
theorem mF.tr {s : Nat} {a b c : gm_I} (h : mF s a b) (k : mF s b c) : mF s a c := ⟨fun q x y => (k.1 q x y).trans (h.1 q x y), fun j hj => (k.2.1 j hj).trans (h.2.1 j hj), fun q j x y z => (k.2.2 q j x y z).trans (h.2.2 q j x y z)⟩
theorem TF.mf {s : Nat} {a b : gm_I} (h : TF s a b) : mF s a b := ⟨fun q x y => h.1 q x (by omega), fun j hj => h.2.1 j (fun e => hj (by simp at e ⊢; omega)), fun q j x y z => by
  by_cases e : q ≤ 103
  · exact h.2.2 q j x e z
  · rw [h.1 q (by omega) (by omega)]⟩
theorem Fo.mf {s : Nat} {L : List Nat} {a b : gm_I} (h : Fo L a b) (hL : ∀ j, j ∈ L → j ∈ [11, 13, 14, 15, 16, 20]) : mF s a b := TF.mf (Fo.tf h hL)
theorem LG.mf {s bl bu c u i : Nat} {a b : gm_I} (h : LG bl bu c u i a b) (h1 : 130 * s ≤ bl) (h2 : bu ≤ 130 * s + 130) (h3 : 420 * s ≤ c) (h4 : u ≤ 420 * s + 420) (h5 : 3 * s ≤ i) (h6 : i < 3 * s + 3) : mF s a b := ⟨fun q x y => h.1 q x (by omega), fun j hj => h.2.1 j (fun e => hj (by simp at e ⊢; omega)), fun q j x y z => by
  by_cases e1 : q < 104
  · rw [h.1 q (by omega) (Or.inl e1)]
  · by_cases e2 : q ≤ 105
    · have : sWd q = 3 := by rcases (by omega : q = 104 ∨ q = 105) with rfl | rfl <;> rfl
      rw [this] at z
      exact h.2.2.1 q j (by omega) (by omega)
    · by_cases e3 : q ≤ 110
      · have : sWd q = 130 := by rcases (by omega : q = 106 ∨ q = 107 ∨ q = 108 ∨ q = 109 ∨ q = 110) with rfl | rfl | rfl | rfl | rfl <;> rfl
        rw [this] at z
        exact h.2.2.2.1 q j (by omega) e3 (by omega)
      · have : sWd q = 420 := by rcases (by omega : q = 111 ∨ q = 112) with rfl | rfl <;> rfl
        rw [this] at z
        exact h.2.2.2.2 q j (by omega) (by omega)⟩
section
variable {K V P W : Nat → Nat} {M : Nat}
/-- the fault of sense that a tell of numbers adds -/
theorem tlW_eq {A : TA} {t s : Nat} (hk : K t = 128 + s) (hs : s < 5) : (tlW K V A t).wk = (if A.wk = 0 then (sfT K V t).1 else A.wk) ∧ (tlW K V A t).wt = (if A.wk = 0 then (sfT K V t).2 else A.wt) := by
  unfold tlW
  by_cases h : A.wk = 0
  · rw [if_pos ⟨h, by omega⟩, TA_wk, TA_wt, if_pos h, if_pos h]; exact ⟨rfl, rfl⟩
  · rw [if_neg (fun e => h e.1), if_neg h, if_neg h]; exact ⟨rfl, rfl⟩
theorem wr0 {lo hi t : Nat} {w : Nat × Nat} (h : ¬ w.1 = 0) : wrB V lo hi t w.1 w.2 = w := by
  unfold wrB; rw [if_neg (fun e => h e.1)]
theorem wrN0 {t : Nat} {w : Nat × Nat} (h : ¬ w.1 = 0) : wrN K V t w = w := by
  unfold wrN; rw [if_neg (fun e => h e.1)]
theorem rgS_4 {s fi : Nat} (f : Nat) (i : Nat) : rgS V s fi (f + 1) i = if V (fi + i) < gLo s i ∨ gHi s i < V (fi + i) then (5, fi + i) else rgS V s fi f (i + 1) := rfl
/-- one number more -/
theorem wrS {s fi f i : Nat} {w : Nat × Nat} (hw : w = (0, 0) ∨ ¬ w.1 = 0) (F : Nat × Nat → Nat × Nat) (hF : ∀ w : Nat × Nat, (w = (0, 0) ∨ ¬ w.1 = 0) → F w = if w.1 = 0 then rgS V s fi f (i + 1) else w) : F (wrB V (gLo s i) (gHi s i) (fi + i) w.1 w.2) = if w.1 = 0 then rgS V s fi (f + 1) i else w := by
  unfold wrB
  rw [rgS_4]
  rcases hw with e | e
  · subst e
    by_cases h : V (fi + i) < gLo s i ∨ gHi s i < V (fi + i)
    · rw [if_pos ⟨rfl, h⟩, if_pos rfl, if_pos h, hF _ (Or.inr (by show ¬ (5 : Nat) = 0; decide)), if_neg (by show ¬ (5 : Nat) = 0; decide)]
    · rw [if_neg (fun e => h e.2), if_pos rfl, if_neg h, hF _ (Or.inl rfl), if_pos rfl]
  · rw [if_neg (fun h => e h.1), if_neg e, hF _ (Or.inr e), if_neg e]
end
