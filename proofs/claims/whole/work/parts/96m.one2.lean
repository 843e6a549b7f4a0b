/-! from one tell to the next -/
section
variable {K V P W : Nat → Nat} {M : Nat}
theorem lwOk_mo {N N' a e : Nat} (h : lwOk K N a e) (hN : N ≤ N') : lwOk K N' a e := by
  obtain ⟨h1, h2, h3, h4⟩ := h
  exact ⟨h1, h2, by omega, h4⟩
theorem mLws_fr {im im' : gm_I} {s t t' bb cb : Nat} {la : Nat → Nat} (h : mLws im K V s t la bb cb) (ht : t ≤ t') (h1 : im' 84 35 = im 84 35) (h2 : im' 84 41 = im 84 41) (h3 : ∀ q, 104 ≤ q → q ≤ 112 → im' q = im q) : mLws im' K V s t' la bb cb := by
  obtain ⟨⟨a1, a2, a3, a4⟩, b⟩ := h
  refine ⟨⟨by rw [h1]; exact a1, by rw [h2]; exact a2, by omega, by omega⟩, fun k hk => ?_⟩
  rw [h3 104 (by decide) (by decide), h3 105 (by decide) (by decide)]
  rcases b k hk with q | ⟨e, b', c', q1, q2, q3, q4, q5, q6⟩
  · exact Or.inl q
  · refine Or.inr ⟨e, b', c', lwOk_mo q1 ht, q2, q3, q4, ?_, q6⟩
    unfold mReg
    rw [h3 106 (by decide) (by decide), h3 107 (by decide) (by decide), h3 108 (by decide) (by decide), h3 109 (by decide) (by decide), h3 110 (by decide) (by decide), h3 111 (by decide) (by decide), h3 112 (by decide) (by decide)]
    exact q5
theorem nmR_ext {lm : gm_L} {cnt t t' : Nat} (h : nmR lm K W cnt t) (ht : t ≤ t') (hK : ∀ x, t ≤ x → x < t' → ¬ K x = 1) : nmR lm K W cnt t' := by
  obtain ⟨ix, x1, x2⟩ := h
  refine ⟨ix, fun i hi => ⟨by have := (x1 i hi).1; omega, (x1 i hi).2⟩, fun y hy h1 => ?_⟩
  apply x2 y _ h1
  apply Classical.byContradiction
  intro hc
  exact hK y (by omega) hy h1
theorem nmR_add {lm : gm_L} {cnt t t' x : Nat} (h : nmR lm K W cnt t) (ht : t ≤ x) (hx : x < t') (hk : K x = 1) (hw : lm 90 x = Int64.ofNat (W x)) (hK : ∀ y, t ≤ y → y < t' → K y = 1 → y = x) : nmR (gm_up lm 92 cnt (lm 90 x)) K W (cnt + 1) t' := by
  obtain ⟨ix, x1, x2⟩ := h
  refine ⟨udN ix cnt x, fun i hi => ?_, fun y hy h1 => ?_⟩
  · unfold udN
    by_cases e : i = cnt
    · subst e; rw [if_pos rfl, gu_eq]; exact ⟨hx, hk, hw⟩
    · rw [if_neg e, gu_nk e]
      obtain ⟨a, b, c⟩ := x1 i (by omega)
      exact ⟨by omega, b, c⟩
  · by_cases hy2 : y < t
    · obtain ⟨i, a, b⟩ := x2 y hy2 h1
      exact ⟨i, by omega, by unfold udN; rw [if_neg (by omega)]; exact b⟩
    · exact ⟨cnt, by omega, by unfold udN; rw [if_pos rfl]; exact (hK y (by omega) hy h1).symm⟩
/-- the pair of the worst, as it is kept -/
def wP (A : TA) : Nat × Nat := if A.wk = 0 then (0, 0) else (A.wk, A.wt)
theorem wP_R {im : gm_I} {A : TA} (h : wR im P A.wk A.wt) : wR im P (wP A).1 (wP A).2 := by
  unfold wP
  by_cases e : A.wk = 0
  · rw [if_pos e]; rw [e] at h; exact ⟨h.1, fun h2 => absurd rfl h2⟩
  · rw [if_neg e]; exact h
theorem wP_z (A : TA) : wP A = (0, 0) ∨ ¬ (wP A).1 = 0 := by
  unfold wP
  by_cases e : A.wk = 0
  · rw [if_pos e]; exact Or.inl rfl
  · rw [if_neg e]; exact Or.inr e
theorem wP_0 (A : TA) : (wP A).1 = 0 ↔ A.wk = 0 := by
  unfold wP
  by_cases e : A.wk = 0
  · rw [if_pos e]; exact ⟨fun _ => e, fun _ => rfl⟩
  · rw [if_neg e]
/-- the worst behind a tell of numbers -/
theorem wP_next {im : gm_I} {A A' : TA} {t s : Nat} (hk : K t = 128 + s) (hs : s < 5) (hA : A'.wk = (tlW K V A t).wk ∧ A'.wt = (tlW K V A t).wt) {w : Nat × Nat} (hw : w = if (wP A).1 = 0 then sfT K V t else wP A) (h : wR im P w.1 w.2) : wR im P A'.wk A'.wt := by
  obtain ⟨e1, e2⟩ := tlW_eq (A := A) hk hs
  rw [hA.1, hA.2, e1, e2]
  by_cases e : A.wk = 0
  · rw [if_pos ((wP_0 A).mpr e)] at hw
    rw [if_pos e, if_pos e, ← hw]; exact h
  · rw [if_neg (fun h => e ((wP_0 A).mp h))] at hw
    rw [if_neg e, if_neg e]
    unfold wP at hw
    rw [if_neg e] at hw
    rw [hw] at h
    exact h
/-- the folds over a tell's numbers -/
theorem wr_id (s fi : Nat) (i : Nat) (w : Nat × Nat) (hw : w = (0, 0) ∨ ¬ w.1 = 0) : w = if w.1 = 0 then rgS V s fi 0 i else w := by
  rcases hw with e | e
  · subst e; rfl
  · rw [if_neg e]
theorem sf_bd {A : TA} {t : Nat} : (sfT K V t).1 ≤ 5 ∧ (∀ s, K t = 128 + s → s < 5 → ¬ (sfT K V t).1 = 0 → (sfT K V t).2 ≤ t + gNa s + gIn s) := by
  have hr : ∀ s fi f i, (rgS V s fi f i).1 ≤ 5 ∧ (¬ (rgS V s fi f i).1 = 0 → (rgS V s fi f i).2 < fi + i + f) := by
    intro s fi f
    induction f with
    | zero => intro i; exact ⟨Nat.zero_le _, fun h => absurd rfl h⟩
    | succ f ihf =>
      intro i
      simp only [rgS]
      split
      · exact ⟨Nat.le_refl _, fun _ => by show fi + i < _; omega⟩
      · obtain ⟨a, b⟩ := ihf (i + 1)
        exact ⟨a, fun h => by have := b h; omega⟩
  unfold sfT
  constructor
  · split
    · exact (by decide : 3 ≤ 5)
    · exact (hr _ _ _ _).1
  · intro s hk hs
    rw [hk, Nat.add_sub_cancel_left]
    split
    · rename_i h
      intro _
      show t + 1 ≤ _
      omega
    · intro h
      have := (hr _ _ _ _).2 h
      omega
theorem pI_mk (hx : tcx K V P W M) {s t t' : Nat} {im im' : gm_I} {lm lm' : gm_L} (hs : s < 2) (h : pI K V P W M s im lm t) (hT : TF s im im') (hL : Fr [92] lm lm') (htt : t < t') (hok : okT K g0 t') (hw0 : (gst K g0 t').w = 0) (hp : pO im' t') {so : Nat} (hso : so < 5) (hkt : K t = 128 + so) (hfo : foA K V t' = tlT K V (foA K V t) t) (hend : t + 1 + gNa so + gIn so < t') {w : Nat × Nat} (hw : w = if (wP (foA K V t)).1 = 0 then sfT K V t else wP (foA K V t)) (hwR : wR im' P w.1 w.2) (hcnt : im' 84 20 = nI ((foA K V t').nm + (foA K V t').nk + (foA K V t').nj)) (hnm : nmR lm' K W ((foA K V t').nm + (foA K V t').nk + (foA K V t').nj) t') (hA : pA im' V s (foA K V t')) : pI K V P W M s im' lm' t' := by
  obtain ⟨p1, p2, p3, p4, p5, p6, p7, p8, p9, p10, p11, bb, cb, p12⟩ := h
  have hwk := tlT_w (K := K) (V := V) (foA K V t) t
  have e12 := tlW_eq (K := K) (V := V) (A := foA K V t) hkt hso
  have hla : (foA K V t').la = (foA K V t).la := by
    rw [hfo]
    obtain ⟨w1, w2, w3, w4, w5, w6, w7, w8, w9⟩ := tlW_n K V (foA K V t) t
    unfold tlT
    rcases (by omega : so = 0 ∨ so = 1 ∨ so = 2 ∨ so = 3 ∨ so = 4) with rfl | rfl | rfl | rfl | rfl
    · rw [if_pos hkt, TA_la, w9]
    · rw [if_neg (by omega), if_pos hkt, TA_la, w9]
    · rw [if_neg (by omega), if_neg (by omega), if_pos hkt, TA_la, w9]
    · rw [if_neg (by omega), if_neg (by omega), if_neg (by omega), if_pos hkt, TA_la, w9]
    · rw [if_neg (by omega), if_neg (by omega), if_neg (by omega), if_neg (by omega), if_pos hkt, TA_la, w9]
  refine ⟨hok, hw0, hp, ?_, by rw [hT.2.1 12 (by decide)]; exact p5, by rw [hT.2.1 19 (by decide)]; exact p6, ?_, ?_, hcnt, hnm, hA, bb, cb, ?_⟩
  · unfold mTks mTk1
    rw [hT.1 87 (by decide) (by decide), hT.1 88 (by decide) (by decide), hT.1 89 (by decide) (by decide), hL 90 (by decide)]
    exact p4
  · rw [hfo]
    exact wP_next hkt hso hwk hw hwR
  · rw [hfo, hwk.1, hwk.2, e12.1, e12.2]
    obtain ⟨b1, b2⟩ := sf_bd (K := K) (V := V) (A := foA K V t) (t := t)
    by_cases e : (foA K V t).wk = 0
    · rw [if_pos e, if_pos e]
      exact ⟨b1, fun h => by have := b2 so hkt hso h; omega⟩
    · rw [if_neg e, if_neg e]
      exact ⟨p8.1, fun h => by have := p8.2 h; omega⟩
  · rw [hla]
    exact mLws_fr p12 (by omega) (hT.2.1 35 (by decide)) (hT.2.1 41 (by decide)) (fun q h1 h2 => hT.1 q (by omega) (by omega))
end
