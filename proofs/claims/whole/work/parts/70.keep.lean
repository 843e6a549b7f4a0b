/-! the machine leaves the script alone -/
def kpO (n : Nat) (im : gm_I) : gm_O → Prop
  | some (.inl x) => x.2.2.2.1 ≤ 128 ∧ ∀ q, 128 ≤ q → x.2.2.2.2.2.1 q = im q
  | some (.inr (.inl x)) => x.2.1 ≤ 128 ∧ ∀ q, 128 ≤ q → x.2.2.2.1 q = im q
  | _ => True
section
variable {n : Nat} {im : gm_I}
theorem kp_none : kpO n im none := trivial
theorem kp_nx {pc : Nat} {vs st : List Value} {rf : gm_R} {lm : gm_L} (h : n ≤ 128) : kpO n im (gm_nx pc vs st n rf im lm) := ⟨h, fun _ _ => rfl⟩
theorem kp_up {pc : Nat} {vs st : List Value} {rf : gm_R} {lm : gm_L} {o k : Nat} {v : Int32} (h : n ≤ 128) (ho : o < n) : kpO n im (gm_nx pc vs st n rf (gm_up im o k v) lm) := ⟨h, fun q hq => gu_row (by omega)⟩
theorem kp_cpy {pc : Nat} {vs st : List Value} {rf : gm_R} {lm : gm_L} {a b w : Nat} (h : n ≤ 128) (ho : b < n) : kpO n im (gm_nx pc vs st n rf (gm_cpy im a b w) lm) := ⟨h, fun q hq => by funext j; show (if q = b ∧ j < w then im a j else im q j) = _; rw [if_neg (by omega)]⟩
theorem kp_zr {pc w n' : Nat} {vs st : List Value} {rf : gm_R} {lm : gm_L} (hn : n' ≤ 128) (h : n + w ≤ 128) : kpO n im (gm_nx pc vs st n' rf (gm_zr im n w 0) lm) := ⟨hn, fun q hq => by funext j; show (if n ≤ q ∧ q < n + w then 0 else im q j) = _; rw [if_neg (by omega)]⟩
theorem kp_i {st : List Value} {f : Int32 → List Value → gm_O} (h : ∀ x r, kpO n im (f x r)) : kpO n im (gm_i st f) := by
  unfold gm_i; split
  · exact h _ _
  · trivial
theorem kp_l {st : List Value} {f : Int64 → List Value → gm_O} (h : ∀ x r, kpO n im (f x r)) : kpO n im (gm_l st f) := by
  unfold gm_l; split
  · exact h _ _
  · trivial
theorem kp_a {st : List Value} {f : Nat → List Value → gm_O} (h : ∀ x r, kpO n im (f x r)) : kpO n im (gm_a st f) := by
  unfold gm_a; split
  · exact h _ _
  · trivial
theorem kp_ii {st : List Value} {f : Int32 → Int32 → List Value → gm_O} (h : ∀ x y r, kpO n im (f x y r)) : kpO n im (gm_ii st f) := by
  unfold gm_ii; split
  · exact h _ _ _
  · trivial
theorem kp_ll {st : List Value} {f : Int64 → Int64 → List Value → gm_O} (h : ∀ x y r, kpO n im (f x y r)) : kpO n im (gm_ll st f) := by
  unfold gm_ll; split
  · exact h _ _ _
  · trivial
theorem kp_jm {pc : Nat} {off : Int} {vs st : List Value} {rf : gm_R} {lm : gm_L} (h : n ≤ 128) : kpO n im (gm_jm pc off vs st n rf im lm) := by
  unfold gm_jm; split
  · exact kp_nx h
  · trivial
theorem kp_cl {M : gm_M} {k pc : Nat} {vs st : List Value} {np : Nat} : kpO n im (gm_cl M k pc vs st n np) := by
  unfold gm_cl; split
  · split <;> trivial
  · trivial
theorem lay_len : gm_LAY.length = 128 := by decide +kernel
theorem lay_lt {a : Nat} {x : Nat × Nat} (h : gm_LAY[a]? = some x) : a < 128 := by
  have := (List.getElem?_eq_some_iff.mp h).1
  rw [lay_len] at this; exact this
theorem kp_new {M : gm_M} {ci pc : Nat} {vs st : List Value} {rf : gm_R} {lm : gm_L} : kpO n im (gm_new M ci pc vs st n rf im lm) := by
  unfold gm_new; split
  · rename_i h; have := lay_lt h.1; exact kp_zr (by omega) (by omega)
  · trivial
theorem kp_nwa {M : gm_M} {kd pc : Nat} {z : Int32} {vs st : List Value} {rf : gm_R} {lm : gm_L} : kpO n im (gm_nwa M kd pc z vs st n rf im lm) := by
  unfold gm_nwa; split
  · rename_i h; have := lay_lt h.1; exact kp_zr (by omega) (by omega)
  · trivial
theorem kp_mna {M : gm_M} {pc : Nat} {a b : Int32} {vs st : List Value} {rf : gm_R} {lm : gm_L} : kpO n im (gm_mna M pc a b vs st n rf im lm) := by
  unfold gm_mna; split
  · rename_i h
    have h1 := lay_lt h.1
    have h2 : n + 1 + a.toNatClampNeg ≤ 128 := by
      by_cases e : a.toNatClampNeg = 0
      · omega
      · have := lay_lt (h.2.2.2.2.1 (a.toNatClampNeg - 1) (by omega))
        omega
    exact kp_zr (by omega) (by omega)
  · trivial
theorem kp_get {pc ci k : Nat} {vs st : List Value} {rf : gm_R} {lm : gm_L} (h : n ≤ 128) : kpO n im (gm_get pc ci k vs st n rf im lm) := by
  unfold gm_get
  apply kp_a; intro o r
  split
  · split
    · exact kp_nx h
    · exact kp_nx h
    · exact kp_nx h
    · split
      · split
        · trivial
        · exact kp_nx h
      · trivial
    · trivial
  · trivial
theorem kp_put {M : gm_M} {pc ci k : Nat} {fin : Bool} {vs st : List Value} {rf : gm_R} {lm : gm_L} (h : n ≤ 128) : kpO n im (gm_put M pc ci k fin vs st n rf im lm) := by
  unfold gm_put
  split
  · split
    · rename_i h2; exact kp_up h h2.1
    · trivial
  · split
    · exact kp_nx h
    · trivial
  · split
    · exact kp_nx h
    · trivial
  · trivial
theorem kp_ret {v : Option Value} {rf : gm_R} {lm : gm_L} (h : n ≤ 128) : kpO n im (some (.inr (.inl (v, n, rf, im, lm)))) := ⟨h, fun _ _ => rfl⟩
theorem kp_stp {M : gm_M} {ins : Instr} {pc : Nat} {vs st : List Value} {rf : gm_R} {lm : gm_L} (h : n ≤ 128) : kpO n im (gm_stp M ins pc vs st n rf im lm) := by
  unfold gm_stp
  repeat' (first
    | exact kp_nx h
    | exact kp_none
    | exact kp_jm h
    | exact kp_cl
    | exact kp_new
    | exact kp_nwa
    | exact kp_mna
    | exact kp_get h
    | exact kp_put h
    | exact kp_ret h
    | exact kp_up h (by assumption)
    | (apply kp_i; intro x r)
    | (apply kp_l; intro x r)
    | (apply kp_a; intro x r)
    | (apply kp_ii; intro x y r)
    | (apply kp_ll; intro x y r)
    | (rename_i hc; exact kp_cpy h hc.2.1)
    | split)
end
theorem gm_keep : ∀ (f k pc : Nat) (vs st : List Value) (n : Nat) (rf : gm_R) (im : gm_I) (lm : gm_L) (r : gm_Res), gm_run f k pc vs st n rf im lm = some r → n ≤ 128 → r.2.1 ≤ 128 ∧ ∀ q, 128 ≤ q → r.2.2.2.1 q = im q := by
  intro f
  induction f with
  | zero => intro k pc vs st n rf im lm r h; cases h
  | succ f ih =>
    intro k pc vs st n rf im lm r h hn
    rw [gm_run] at h
    cases hM : gm_MT[k]? with
    | none => simp only [hM] at h; cases h
    | some M =>
      simp only [hM] at h
      cases hd : decode (gm_b M) pc with
      | error e => simp only [hd] at h; cases h
      | ok q =>
        obtain ⟨ins, len⟩ := q
        simp only [hd] at h
        by_cases hln : gm_lnb ins len = true
        case neg => rw [if_neg hln] at h; cases h
        rw [if_pos hln] at h
        have hk := kp_stp (M := M) (ins := ins) (pc := pc) (vs := vs) (st := st) (rf := rf) (lm := lm) (im := im) hn
        cases hs : gm_stp M ins pc vs st n rf im lm with
        | none => simp only [hs] at h; cases h
        | some o =>
          rw [hs] at hk
          simp only [hs] at h
          rcases o with ⟨pc', vs', st', n', rf', im', lm'⟩ | r' | ⟨k', as, pc', rest⟩
          · obtain ⟨a1, a2⟩ := ih _ _ _ _ _ _ _ _ _ h hk.1
            exact ⟨a1, fun q hq => (a2 q hq).trans (hk.2 q hq)⟩
          · cases h
            exact hk
          · simp only at h
            cases hN : gm_MT[k']? with
            | none => simp only [hN] at h; cases h
            | some N =>
              simp only [hN] at h
              by_cases hl : (lg_sl as).length ≤ gm_ml N
              · rw [if_pos hl] at h
                cases hc : gm_run f k' 0 (gm_ent N as) [] n rf im lm with
                | none => simp only [hc] at h; cases h
                | some q =>
                  obtain ⟨v, n', rf', im', lm'⟩ := q
                  simp only [hc] at h
                  by_cases hn' : n' = n + gm_nc N
                  · rw [if_pos hn'] at h
                    obtain ⟨b1, b2⟩ := ih _ _ _ _ _ _ _ _ _ hc hn
                    obtain ⟨a1, a2⟩ := ih _ _ _ _ _ _ _ _ _ h b1
                    exact ⟨a1, fun q hq => (a2 q hq).trans (b2 q hq)⟩
                  · rw [if_neg hn'] at h; cases h
              · rw [if_neg hl] at h; cases h
theorem den_keep {k pc : Nat} {vs st : List Value} {n : Nat} {rf : gm_R} {im : gm_I} {lm : gm_L} {v : Option Value} {n' : Nat} {rf' : gm_R} {im' : gm_I} {lm' : gm_L} (h : gm_den k pc vs st n rf im lm = some (v, n', rf', im', lm')) (hn : n ≤ 128) : n' ≤ 128 ∧ ∀ q, 128 ≤ q → im' q = im q := by
  obtain ⟨f, hf⟩ := gm_den_iff.mp h
  exact gm_keep f _ _ _ _ _ _ _ _ _ hf hn
