/-! the grammar as the class holds it: what it wants next, and what a token does -/
/-- a row with one place changed -/
def udN {α : Type} (f : Nat → α) (i : Nat) (v : α) : Nat → α := fun j => if j = i then v else f j
def GS : Type := Nat × Nat × Nat × Nat × Nat × Nat × (Nat → Nat)
def GS.w (s : GS) : Nat := s.1
def GS.nm (s : GS) : Nat := s.2.1
def GS.it (s : GS) : Nat := s.2.2.1
def GS.sc (s : GS) : Nat := s.2.2.2.1
def GS.op (s : GS) : Nat := s.2.2.2.2.1
def GS.fi (s : GS) : Nat := s.2.2.2.2.2.1
def GS.tm (s : GS) : Nat → Nat := s.2.2.2.2.2.2
def GS.mk (w_ : Nat) (nm_ : Nat) (it_ : Nat) (sc_ : Nat) (op_ : Nat) (fi_ : Nat) (tm_ : Nat → Nat) : GS := (w_, nm_, it_, sc_, op_, fi_, tm_)
theorem GS_w (w_ : Nat) (nm_ : Nat) (it_ : Nat) (sc_ : Nat) (op_ : Nat) (fi_ : Nat) (tm_ : Nat → Nat) : (GS.mk w_ nm_ it_ sc_ op_ fi_ tm_).w = w_ := rfl
theorem GS_nm (w_ : Nat) (nm_ : Nat) (it_ : Nat) (sc_ : Nat) (op_ : Nat) (fi_ : Nat) (tm_ : Nat → Nat) : (GS.mk w_ nm_ it_ sc_ op_ fi_ tm_).nm = nm_ := rfl
theorem GS_it (w_ : Nat) (nm_ : Nat) (it_ : Nat) (sc_ : Nat) (op_ : Nat) (fi_ : Nat) (tm_ : Nat → Nat) : (GS.mk w_ nm_ it_ sc_ op_ fi_ tm_).it = it_ := rfl
theorem GS_sc (w_ : Nat) (nm_ : Nat) (it_ : Nat) (sc_ : Nat) (op_ : Nat) (fi_ : Nat) (tm_ : Nat → Nat) : (GS.mk w_ nm_ it_ sc_ op_ fi_ tm_).sc = sc_ := rfl
theorem GS_op (w_ : Nat) (nm_ : Nat) (it_ : Nat) (sc_ : Nat) (op_ : Nat) (fi_ : Nat) (tm_ : Nat → Nat) : (GS.mk w_ nm_ it_ sc_ op_ fi_ tm_).op = op_ := rfl
theorem GS_fi (w_ : Nat) (nm_ : Nat) (it_ : Nat) (sc_ : Nat) (op_ : Nat) (fi_ : Nat) (tm_ : Nat → Nat) : (GS.mk w_ nm_ it_ sc_ op_ fi_ tm_).fi = fi_ := rfl
theorem GS_tm (w_ : Nat) (nm_ : Nat) (it_ : Nat) (sc_ : Nat) (op_ : Nat) (fi_ : Nat) (tm_ : Nat → Nat) : (GS.mk w_ nm_ it_ sc_ op_ fi_ tm_).tm = tm_ := rfl
def gMost (s : Nat) : Nat := if s = 1 then 7 else if s = 2 then 5 else if s = 3 then 8 else 400
def gNa (s : Nat) : Nat := if s = 1 then 1 else if s = 2 then 1 else if s = 3 then 1 else 0
def gIn (s : Nat) : Nat := if s = 1 then 4 else if s = 2 then 3 else 1
def gOpr (k : Nat) : Bool := k == 43 || k == 45 || k == 42 || k == 47
def gCls (sc : Nat) : Nat := if sc = 1 then 60 else if sc = 2 then 137 else if sc = 3 then 138 else 59
/-- the fault that a token is -/
def gf (g : GS) (k : Nat) : Nat :=
  if g.w = 0 then (if k < 128 ∨ 136 ≤ k then 1 else if gMost (k - 128) ≤ g.tm (k - 128) then 2 else 0)
  else if g.w = 1 then (if 0 < g.nm then (if k = 1 then 0 else 1) else if 0 < g.it then (if k = 2 then 0 else 1) else (if k = 59 then 0 else 1))
  else if g.w = 2 then (if k = 61 then 0 else 1)
  else if g.w = 3 then (if k = 136 then (if g.sc = 0 then (if 4 ≤ g.fi then 2 else 0) else 1) else if k = 40 then (if 6 ≤ g.op then 2 else 0) else if k = 2 ∨ 139 ≤ k then 0 else 1)
  else cond (gOpr k) 0 (if 0 < g.op then (if k = 41 then 0 else 1) else if k = gCls g.sc then 0 else 1)
/-- what is wanted behind it -/
def gn (g : GS) (k : Nat) : GS :=
  if g.w = 0 then (if 133 ≤ k then (GS.mk (2) g.nm g.it g.sc g.op g.fi (udN g.tm (k - 128) (g.tm (k - 128) + 1))) else (GS.mk (1) (gNa (k - 128)) (gIn (k - 128)) g.sc g.op g.fi (udN g.tm (k - 128) (g.tm (k - 128) + 1))))
  else if g.w = 1 then (if 0 < g.nm then (GS.mk g.w (g.nm - 1) g.it g.sc g.op g.fi g.tm) else if 0 < g.it then (GS.mk g.w g.nm (g.it - 1) g.sc g.op g.fi g.tm) else (GS.mk (0) g.nm g.it g.sc g.op g.fi g.tm))
  else if g.w = 2 then (GS.mk (3) g.nm g.it (0) (0) (0) g.tm)
  else if g.w = 3 then (if k = 136 then (GS.mk g.w g.nm g.it (1) g.op (g.fi + 1) g.tm) else if k = 40 then (GS.mk g.w g.nm g.it (if g.sc = 0 then 4 else g.sc) (g.op + 1) g.fi g.tm) else (GS.mk (4) g.nm g.it (if g.sc = 0 then 4 else g.sc) g.op g.fi g.tm))
  else cond (gOpr k) (GS.mk (3) g.nm g.it g.sc g.op g.fi g.tm) (if 0 < g.op then (GS.mk g.w g.nm g.it g.sc (g.op - 1) g.fi g.tm) else if g.sc = 1 then (GS.mk (3) g.nm g.it (2) g.op g.fi g.tm) else if g.sc = 2 then (GS.mk (3) g.nm g.it (3) g.op g.fi g.tm) else if g.sc = 3 then (GS.mk (3) g.nm g.it (0) g.op g.fi g.tm) else (GS.mk (0) g.nm g.it g.sc g.op g.fi g.tm))
def g0 : GS := ⟨0, 0, 0, 0, 0, 0, fun _ => 0⟩
/-- at the beginning of a text: other fields may hold what they like -/
def gB (g : GS) : GS := (GS.mk (0) g.nm g.it g.sc g.op g.fi (fun _ => 0))
section
variable (K : Nat → Nat) (b : GS)
def gst : Nat → GS
  | 0 => gB b
  | t + 1 => gn (gst t) (K t)
/-- the text ends here, and may -/
def gE (t : Nat) : Prop := (gst K b t).w = 0 ∧ K t = 3
/-- no fault before the token -/
def okT (t : Nat) : Prop := t ≤ 400 ∧ ∀ x, x < t → ¬ gE K b x ∧ gf (gst K b x) (K x) = 0
/-- the form's fault is f, at the token t -/
def foT (t f : Nat) : Prop := okT K b t ∧ ((gE K b t ∧ f = 0) ∨ (¬ gE K b t ∧ gf (gst K b t) (K t) = f ∧ f ≠ 0) ∨ (¬ gE K b t ∧ gf (gst K b t) (K t) = 0 ∧ t = 400 ∧ f = 2))
end
section
variable {K : Nat → Nat} {b : GS}
theorem foT_uniq {t f t' f' : Nat} (h : foT K b t f) (h' : foT K b t' f') : t = t' ∧ f = f' := by
  have key : ∀ {t f t' f' : Nat}, foT K b t f → foT K b t' f' → ¬ t < t' := by
    intro t f t' f' ⟨_, h2⟩ ⟨⟨h3, h4⟩, _⟩ hlt
    have h5 := h4 t hlt
    rcases h2 with ⟨a, -⟩ | ⟨-, a, c⟩ | ⟨-, -, a, -⟩
    · exact h5.1 a
    · rw [h5.2] at a; exact c a.symm
    · omega
  have e : t = t' := by
    have a := key h h'
    have c := key h' h
    omega
  subst e
  refine ⟨rfl, ?_⟩
  obtain ⟨-, h2⟩ := h
  obtain ⟨-, h3⟩ := h'
  rcases h2 with ⟨a, e⟩ | ⟨a, c, d⟩ | ⟨a, c, d, e⟩ <;> rcases h3 with ⟨a', e'⟩ | ⟨a', c', d'⟩ | ⟨a', c', d', e'⟩
  · rw [e, e']
  · exact absurd a a'
  · exact absurd a a'
  · exact absurd a' a
  · rw [← c, ← c']
  · rw [c'] at c; exact absurd c.symm d
  · exact absurd a' a
  · rw [c] at c'; exact absurd c'.symm d'
  · rw [e, e']
theorem gf_end {g : GS} (h : ¬ g.w = 0) : gf g 3 = 1 := by
  unfold gf
  rw [if_neg h]
  have : ¬ (3 : Nat) = gCls g.sc := by
    unfold gCls
    split
    · decide
    · split
      · decide
      · split <;> decide
  simp (decide := true) only [if_false, this]
  split
  · split
    · rfl
    · split <;> rfl
  · split
    · rfl
    · split
      · rfl
      · show (if 0 < g.op then 1 else 1) = 1
        split <;> rfl
/-- a token before which nothing was wrong is none that ends -/
theorem okT_K {t x : Nat} (h : okT K b t) (hx : x < t) : ¬ K x = 3 := by
  intro hk
  have := h.2 x hx
  by_cases hw : (gst K b x).w = 0
  · exact this.1 ⟨hw, hk⟩
  · rw [hk, gf_end hw] at this; exact absurd this.2 (by decide)
theorem okT_le {t x : Nat} (h : okT K b t) (hx : x ≤ t) : okT K b x := ⟨Nat.le_trans hx h.1, fun y hy => h.2 y (by omega)⟩
theorem okT_0 : okT K b 0 := ⟨by decide, fun x hx => absurd hx (Nat.not_lt_zero _)⟩
/-- it goes on, or there are too many tokens -/
theorem okT_go {t : Nat} (h : okT K b t) (h1 : ¬ gE K b t) (h2 : gf (gst K b t) (K t) = 0) : (t = 400 → foT K b t 2) ∧ (t ≠ 400 → okT K b (t + 1)) := by
  refine ⟨fun e => ⟨h, Or.inr (Or.inr ⟨h1, h2, e, rfl⟩)⟩, fun e => ⟨by have := h.1; omega, fun x hx => ?_⟩⟩
  by_cases hxt : x = t
  · subst hxt; exact ⟨h1, h2⟩
  · exact h.2 x (by omega)
theorem foT_bad {t f : Nat} (h : okT K b t) (h1 : ¬ gE K b t) (h2 : gf (gst K b t) (K t) = f) (h3 : f ≠ 0) : foT K b t f := ⟨h, Or.inr (Or.inl ⟨h1, h2, h3⟩)⟩
theorem gE_w {t : Nat} (h : ¬ (gst K b t).w = 0) : ¬ gE K b t := fun e => h e.1
theorem gE_k {t : Nat} (h : ¬ K t = 3) : ¬ gE K b t := fun e => h e.2
theorem gE_W {t w : Nat} (h : (gst K b t).w = w + 1) : ¬ gE K b t := fun e => by rw [e.1] at h; cases h
end
/-! what the tells say -/
def TA : Type := Nat × Nat × Nat × Nat × Nat × (Nat → Nat) × (Nat → Nat) × (Nat → Nat) × (Nat → Nat) × Nat × Nat
def TA.sd (s : TA) : Nat := s.1
def TA.se (s : TA) : Nat := s.2.1
def TA.nm (s : TA) : Nat := s.2.2.1
def TA.nk (s : TA) : Nat := s.2.2.2.1
def TA.nj (s : TA) : Nat := s.2.2.2.2.1
def TA.mi (s : TA) : Nat → Nat := s.2.2.2.2.2.1
def TA.ki (s : TA) : Nat → Nat := s.2.2.2.2.2.2.1
def TA.ji (s : TA) : Nat → Nat := s.2.2.2.2.2.2.2.1
def TA.la (s : TA) : Nat → Nat := s.2.2.2.2.2.2.2.2.1
def TA.wk (s : TA) : Nat := s.2.2.2.2.2.2.2.2.2.1
def TA.wt (s : TA) : Nat := s.2.2.2.2.2.2.2.2.2.2
def TA.mk (sd_ : Nat) (se_ : Nat) (nm_ : Nat) (nk_ : Nat) (nj_ : Nat) (mi_ : Nat → Nat) (ki_ : Nat → Nat) (ji_ : Nat → Nat) (la_ : Nat → Nat) (wk_ : Nat) (wt_ : Nat) : TA := (sd_, se_, nm_, nk_, nj_, mi_, ki_, ji_, la_, wk_, wt_)
theorem TA_sd (sd_ : Nat) (se_ : Nat) (nm_ : Nat) (nk_ : Nat) (nj_ : Nat) (mi_ : Nat → Nat) (ki_ : Nat → Nat) (ji_ : Nat → Nat) (la_ : Nat → Nat) (wk_ : Nat) (wt_ : Nat) : (TA.mk sd_ se_ nm_ nk_ nj_ mi_ ki_ ji_ la_ wk_ wt_).sd = sd_ := rfl
theorem TA_se (sd_ : Nat) (se_ : Nat) (nm_ : Nat) (nk_ : Nat) (nj_ : Nat) (mi_ : Nat → Nat) (ki_ : Nat → Nat) (ji_ : Nat → Nat) (la_ : Nat → Nat) (wk_ : Nat) (wt_ : Nat) : (TA.mk sd_ se_ nm_ nk_ nj_ mi_ ki_ ji_ la_ wk_ wt_).se = se_ := rfl
theorem TA_nm (sd_ : Nat) (se_ : Nat) (nm_ : Nat) (nk_ : Nat) (nj_ : Nat) (mi_ : Nat → Nat) (ki_ : Nat → Nat) (ji_ : Nat → Nat) (la_ : Nat → Nat) (wk_ : Nat) (wt_ : Nat) : (TA.mk sd_ se_ nm_ nk_ nj_ mi_ ki_ ji_ la_ wk_ wt_).nm = nm_ := rfl
theorem TA_nk (sd_ : Nat) (se_ : Nat) (nm_ : Nat) (nk_ : Nat) (nj_ : Nat) (mi_ : Nat → Nat) (ki_ : Nat → Nat) (ji_ : Nat → Nat) (la_ : Nat → Nat) (wk_ : Nat) (wt_ : Nat) : (TA.mk sd_ se_ nm_ nk_ nj_ mi_ ki_ ji_ la_ wk_ wt_).nk = nk_ := rfl
theorem TA_nj (sd_ : Nat) (se_ : Nat) (nm_ : Nat) (nk_ : Nat) (nj_ : Nat) (mi_ : Nat → Nat) (ki_ : Nat → Nat) (ji_ : Nat → Nat) (la_ : Nat → Nat) (wk_ : Nat) (wt_ : Nat) : (TA.mk sd_ se_ nm_ nk_ nj_ mi_ ki_ ji_ la_ wk_ wt_).nj = nj_ := rfl
theorem TA_mi (sd_ : Nat) (se_ : Nat) (nm_ : Nat) (nk_ : Nat) (nj_ : Nat) (mi_ : Nat → Nat) (ki_ : Nat → Nat) (ji_ : Nat → Nat) (la_ : Nat → Nat) (wk_ : Nat) (wt_ : Nat) : (TA.mk sd_ se_ nm_ nk_ nj_ mi_ ki_ ji_ la_ wk_ wt_).mi = mi_ := rfl
theorem TA_ki (sd_ : Nat) (se_ : Nat) (nm_ : Nat) (nk_ : Nat) (nj_ : Nat) (mi_ : Nat → Nat) (ki_ : Nat → Nat) (ji_ : Nat → Nat) (la_ : Nat → Nat) (wk_ : Nat) (wt_ : Nat) : (TA.mk sd_ se_ nm_ nk_ nj_ mi_ ki_ ji_ la_ wk_ wt_).ki = ki_ := rfl
theorem TA_ji (sd_ : Nat) (se_ : Nat) (nm_ : Nat) (nk_ : Nat) (nj_ : Nat) (mi_ : Nat → Nat) (ki_ : Nat → Nat) (ji_ : Nat → Nat) (la_ : Nat → Nat) (wk_ : Nat) (wt_ : Nat) : (TA.mk sd_ se_ nm_ nk_ nj_ mi_ ki_ ji_ la_ wk_ wt_).ji = ji_ := rfl
theorem TA_la (sd_ : Nat) (se_ : Nat) (nm_ : Nat) (nk_ : Nat) (nj_ : Nat) (mi_ : Nat → Nat) (ki_ : Nat → Nat) (ji_ : Nat → Nat) (la_ : Nat → Nat) (wk_ : Nat) (wt_ : Nat) : (TA.mk sd_ se_ nm_ nk_ nj_ mi_ ki_ ji_ la_ wk_ wt_).la = la_ := rfl
theorem TA_wk (sd_ : Nat) (se_ : Nat) (nm_ : Nat) (nk_ : Nat) (nj_ : Nat) (mi_ : Nat → Nat) (ki_ : Nat → Nat) (ji_ : Nat → Nat) (la_ : Nat → Nat) (wk_ : Nat) (wt_ : Nat) : (TA.mk sd_ se_ nm_ nk_ nj_ mi_ ki_ ji_ la_ wk_ wt_).wk = wk_ := rfl
theorem TA_wt (sd_ : Nat) (se_ : Nat) (nm_ : Nat) (nk_ : Nat) (nj_ : Nat) (mi_ : Nat → Nat) (ki_ : Nat → Nat) (ji_ : Nat → Nat) (la_ : Nat → Nat) (wk_ : Nat) (wt_ : Nat) : (TA.mk sd_ se_ nm_ nk_ nj_ mi_ ki_ ji_ la_ wk_ wt_).wt = wt_ := rfl
def gLo (s i : Nat) : Nat := if s = 0 then 2 else if s = 1 ∧ i = 1 then 1 else 0
def gHi (s i : Nat) : Nat := if s = 0 then 3 else if s = 1 then (if i = 0 then 2 else if i = 1 then 9 else if i = 2 then 10 else 999) else if s = 2 then 99 else if s = 3 then 2 else 9999
section
variable (K V : Nat → Nat)
def twc (x : Nat) : Nat → Bool
  | 0 => false
  | i + 1 => twc x i || (K i == 1 && V i == V x)
def rgS (s fi : Nat) : Nat → Nat → Nat × Nat
  | 0, _ => (0, 0)
  | f + 1, i => if V (fi + i) < gLo s i ∨ gHi s i < V (fi + i) then (5, fi + i) else rgS s fi f (i + 1)
/-- the first fault of sense in the tell that begins here -/
def sfT (at_ : Nat) : Nat × Nat :=
  if gNa (K at_ - 128) = 1 ∧ twc K V (at_ + 1) (at_ + 1) = true then (3, at_ + 1) else rgS V (K at_ - 128) (at_ + 1 + gNa (K at_ - 128)) (gIn (K at_ - 128)) 0
def tlW (A : TA) (at_ : Nat) : TA := if A.wk = 0 ∧ K at_ - 128 < 5 then (TA.mk A.sd A.se A.nm A.nk A.nj A.mi A.ki A.ji A.la ((sfT K V at_).1) ((sfT K V at_).2)) else A
def tlT (A : TA) (at_ : Nat) : TA :=
  if K at_ = 128 then (TA.mk (V (at_ + 1)) ((tlW K V A at_).se) ((tlW K V A at_).nm) ((tlW K V A at_).nk) ((tlW K V A at_).nj) ((tlW K V A at_).mi) ((tlW K V A at_).ki) ((tlW K V A at_).ji) ((tlW K V A at_).la) ((tlW K V A at_).wk) ((tlW K V A at_).wt))
  else if K at_ = 129 then (TA.mk ((tlW K V A at_).sd) ((tlW K V A at_).se) (A.nm + 1) ((tlW K V A at_).nk) ((tlW K V A at_).nj) (udN A.mi A.nm at_) ((tlW K V A at_).ki) ((tlW K V A at_).ji) ((tlW K V A at_).la) ((tlW K V A at_).wk) ((tlW K V A at_).wt))
  else if K at_ = 130 then (TA.mk ((tlW K V A at_).sd) ((tlW K V A at_).se) ((tlW K V A at_).nm) (A.nk + 1) ((tlW K V A at_).nj) ((tlW K V A at_).mi) (udN A.ki A.nk at_) ((tlW K V A at_).ji) ((tlW K V A at_).la) ((tlW K V A at_).wk) ((tlW K V A at_).wt))
  else if K at_ = 131 then (TA.mk ((tlW K V A at_).sd) ((tlW K V A at_).se) ((tlW K V A at_).nm) ((tlW K V A at_).nk) (A.nj + 1) ((tlW K V A at_).mi) ((tlW K V A at_).ki) (udN A.ji A.nj at_) ((tlW K V A at_).la) ((tlW K V A at_).wk) ((tlW K V A at_).wt))
  else if K at_ = 132 then (TA.mk ((tlW K V A at_).sd) (V (at_ + 1)) ((tlW K V A at_).nm) ((tlW K V A at_).nk) ((tlW K V A at_).nj) ((tlW K V A at_).mi) ((tlW K V A at_).ki) ((tlW K V A at_).ji) ((tlW K V A at_).la) ((tlW K V A at_).wk) ((tlW K V A at_).wt))
  else (TA.mk ((tlW K V A at_).sd) ((tlW K V A at_).se) ((tlW K V A at_).nm) ((tlW K V A at_).nk) ((tlW K V A at_).nj) ((tlW K V A at_).mi) ((tlW K V A at_).ki) ((tlW K V A at_).ji) (udN A.la (K at_ - 133) (at_ + 2)) ((tlW K V A at_).wk) ((tlW K V A at_).wt))
def tS (at_ : Nat) : Bool := at_ == 0 || K (at_ - 1) == 59
def A0 : TA := ⟨2, 0, 0, 0, 0, fun _ => 0, fun _ => 0, fun _ => 0, fun _ => 0, 0, 0⟩
def foA : Nat → TA
  | 0 => A0
  | t + 1 => cond (tS K t) (tlT K V (foA t) t) (foA t)
end
section
variable {K V : Nat → Nat} {b : GS}
theorem tlW_n (K V : Nat → Nat) (A : TA) (t : Nat) : (tlW K V A t).nm = A.nm ∧ (tlW K V A t).nk = A.nk ∧ (tlW K V A t).nj = A.nj ∧ (tlW K V A t).sd = A.sd ∧ (tlW K V A t).se = A.se ∧ (tlW K V A t).mi = A.mi ∧ (tlW K V A t).ki = A.ki ∧ (tlW K V A t).ji = A.ji ∧ (tlW K V A t).la = A.la := by
  unfold tlW
  by_cases hq : A.wk = 0 ∧ K t - 128 < 5
  · rw [if_pos hq]; simp only [TA_nm, TA_nk, TA_nj, TA_sd, TA_se, TA_mi, TA_ki, TA_ji, TA_la, and_self]
  · rw [if_neg hq]; simp only [and_self]
theorem foA_in {t : Nat} : ∀ {d : Nat}, (∀ x, t ≤ x → x < t + d → ¬ K x = 59) → tS K t = true → foA K V (t + d + 1) = tlT K V (foA K V t) t := by
  intro d
  induction d with
  | zero => intro _ h; show cond (tS K t) _ _ = _; rw [h]; rfl
  | succ d ih =>
    intro h hs
    have h1 := ih (fun x a c => h x a (by omega)) hs
    show cond (tS K (t + (d + 1))) _ _ = _
    have h2 : tS K (t + (d + 1)) = false := by
      unfold tS
      have h3 := h (t + d) (by omega) (by omega)
      rw [show t + (d + 1) - 1 = t + d by omega]
      simp [h3]
    rw [h2]
    exact h1
/-- the times that a sort was told, and where a tell begins -/
theorem gst_J : ∀ {t : Nat}, okT K b t → ((gst K b t).w = 0 ↔ tS K t = true) ∧ (gst K b t).tm 1 = (foA K V t).nm ∧ (gst K b t).tm 2 = (foA K V t).nk ∧ (gst K b t).tm 3 = (foA K V t).nj ∧ (gst K b t).tm 0 ≤ t ∧ (gst K b t).tm 4 ≤ t ∧ (gst K b t).tm 5 ≤ t ∧ (gst K b t).tm 6 ≤ t ∧ (gst K b t).tm 7 ≤ t ∧ (foA K V t).nm ≤ 7 ∧ (foA K V t).nk ≤ 5 ∧ (foA K V t).nj ≤ 8 := by
  intro t
  induction t with
  | zero =>
    intro _
    refine ⟨⟨fun _ => rfl, fun _ => rfl⟩, rfl, rfl, rfl, ?_, ?_, ?_, ?_, ?_, ?_, ?_, ?_⟩ <;> exact Nat.zero_le _
  | succ t ih =>
    intro h
    obtain ⟨i0, i1, i2, i3, i4, i5, i6, i7, i8, i9, i10, i11⟩ := ih (okT_le h (by omega))
    obtain ⟨h1, h2⟩ := h.2 t (by omega)
    have hs1 : tS K (t + 1) = (K t == 59) := by unfold tS; simp
    show ((gn (gst K b t) (K t)).w = 0 ↔ _) ∧ _
    rw [hs1]
    have e1 : gst K b (t + 1) = gn (gst K b t) (K t) := rfl
    have e2 : foA K V (t + 1) = cond (tS K t) (tlT K V (foA K V t) t) (foA K V t) := rfl
    rw [e1, e2]
    generalize hg : gst K b t = g at *
    generalize hA : foA K V t = A at *
    generalize hk : K t = k at *
    by_cases w0 : g.w = 0
    · have hs := i0.mp w0
      rw [hs, cond_true]
      unfold gf at h2
      rw [if_pos w0] at h2
      have hr : ¬ (k < 128 ∨ 136 ≤ k) := fun e => by rw [if_pos e] at h2; cases h2
      rw [if_neg hr] at h2
      have hm : ¬ gMost (k - 128) ≤ g.tm (k - 128) := fun e => by rw [if_pos e] at h2; cases h2
      have hk2 : k = 128 ∨ k = 129 ∨ k = 130 ∨ k = 131 ∨ k = 132 ∨ k = 133 ∨ k = 134 ∨ k = 135 := by omega
      have tw : ∀ A, (tlW K V A t).nm = A.nm ∧ (tlW K V A t).nk = A.nk ∧ (tlW K V A t).nj = A.nj := fun A => ⟨(tlW_n K V A t).1, (tlW_n K V A t).2.1, (tlW_n K V A t).2.2.1⟩
      obtain ⟨w1, w2, w3⟩ := tw A
      unfold gn tlT
      rw [if_pos w0, hk]
      rcases hk2 with rfl | rfl | rfl | rfl | rfl | rfl | rfl | rfl <;> simp (decide := true) only [GS_w, GS_tm, TA_nm, TA_nk, TA_nj, Nat.reduceSub, if_true, if_false, udN, gMost, w1, w2, w3, i1, i2, i3] at hm ⊢ <;> (refine ⟨?_, ?_, ?_, ?_, ?_, ?_, ?_, ?_, ?_, ?_, ?_, ?_⟩) <;> first | trivial | omega
    · have hs : tS K t = false := by
        cases hc : tS K t with
        | false => rfl
        | true => exact absurd (i0.mpr hc) w0
      rw [hs, cond_false]
      have htm : (gn g k).tm = g.tm := by
        unfold gn
        rw [if_neg w0]
        repeat' split
        all_goals first | rfl | (cases gOpr k <;> first | rfl | (simp only [cond_false]; repeat' split) <;> rfl)
      rw [htm]
      refine ⟨?_, i1, i2, i3, by omega, by omega, by omega, by omega, by omega, i9, i10, i11⟩
      · unfold gf at h2
        unfold gn
        rw [if_neg w0] at h2 ⊢
        by_cases w1 : g.w = 1
        · rw [if_pos w1] at h2 ⊢
          by_cases a1 : 0 < g.nm
          · rw [if_pos a1] at h2 ⊢
            have : k = 1 := by apply Classical.byContradiction; intro e; rw [if_neg e] at h2; cases h2
            subst this
            simp only [GS_w, w1]; decide
          · rw [if_neg a1] at h2 ⊢
            by_cases a2 : 0 < g.it
            · rw [if_pos a2] at h2 ⊢
              have : k = 2 := by apply Classical.byContradiction; intro e; rw [if_neg e] at h2; cases h2
              subst this
              simp only [GS_w, w1]; decide
            · rw [if_neg a2] at h2 ⊢
              have : k = 59 := by apply Classical.byContradiction; intro e; rw [if_neg e] at h2; cases h2
              subst this
              exact ⟨fun _ => rfl, fun _ => rfl⟩
        · rw [if_neg w1] at h2 ⊢
          by_cases w2 : g.w = 2
          · rw [if_pos w2] at h2 ⊢
            have : k = 61 := by apply Classical.byContradiction; intro e; rw [if_neg e] at h2; cases h2
            subst this
            simp only [GS_w]; decide
          · rw [if_neg w2] at h2 ⊢
            by_cases w3 : g.w = 3
            · rw [if_pos w3] at h2 ⊢
              have hne : ¬ k = 59 := by
                intro e; subst e; simp (decide := true) only [if_false] at h2
              have hbe : (k == 59) = false := by simp [hne]
              rw [hbe]
              constructor
              · intro e; exfalso; revert e
                split
                · simp only [GS_w, w3]; decide
                · split
                  · simp only [GS_w, w3]; decide
                  · simp only [GS_w]; decide
              · intro e; cases e
            · rw [if_neg w3] at h2 ⊢
              cases ho : gOpr k with
              | true =>
                have hbe : (k == 59) = false := by
                  unfold gOpr at ho
                  simp only [Bool.or_eq_true, beq_iff_eq] at ho
                  have : ¬ k = 59 := by omega
                  simp [this]
                rw [hbe]
                simp only [cond_true, GS_w]; decide
              | false =>
                rw [ho] at h2
                simp only [cond_false] at h2 ⊢
                by_cases a1 : 0 < g.op
                · rw [if_pos a1] at h2 ⊢
                  have : k = 41 := by apply Classical.byContradiction; intro e; rw [if_neg e] at h2; cases h2
                  subst this
                  simp only [GS_w]
                  constructor
                  · intro e; exact absurd e w0
                  · intro e; cases e
                · rw [if_neg a1] at h2 ⊢
                  have hc : k = gCls g.sc := by apply Classical.byContradiction; intro e; rw [if_neg e] at h2; cases h2
                  rw [hc]
                  unfold gCls
                  by_cases c1 : g.sc = 1
                  · simp (decide := true) only [c1, if_true, GS_w]
                  · by_cases c2 : g.sc = 2
                    · simp (decide := true) only [c2, if_true, if_false, GS_w]
                    · by_cases c3 : g.sc = 3
                      · simp (decide := true) only [c3, if_true, if_false, GS_w]
                      · simp (decide := true) only [c1, c2, c3, if_false, GS_w]
end
