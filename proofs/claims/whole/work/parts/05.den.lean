/-! what the pure machine comes to, without fuel; its equations -/
theorem gm_mono : ∀ (f k pc : Nat) (vs st : List Value) (n : Nat) (rf : gm_R) (im : gm_I) (lm : gm_L) (r : gm_Res), gm_run f k pc vs st n rf im lm = some r → gm_run (f + 1) k pc vs st n rf im lm = some r := by
  intro f
  induction f with
  | zero => intro k pc vs st n rf im lm r h; cases h
  | succ f ih =>
    intro k pc vs st n rf im lm r h
    rw [gm_run] at h ⊢
    cases hM : gm_MT[k]? with
    | none => simp only [hM] at h; cases h
    | some M =>
      simp only [hM] at h ⊢
      cases hd : decode (gm_b M) pc with
      | error e => simp only [hd] at h; cases h
      | ok q =>
        obtain ⟨ins, len⟩ := q
        simp only [hd] at h ⊢
        by_cases hln : gm_lnb ins len = true
        case neg => rw [if_neg hln] at h; cases h
        rw [if_pos hln] at h ⊢
        cases hs : gm_stp M ins pc vs st n rf im lm with
        | none => simp only [hs] at h; cases h
        | some o =>
          simp only [hs] at h ⊢
          rcases o with ⟨pc', vs', st', n', rf', im', lm'⟩ | r' | ⟨k', as, pc', rest⟩
          · exact ih _ _ _ _ _ _ _ _ _ h
          · exact h
          · simp only at h ⊢
            cases hN : gm_MT[k']? with
            | none => simp only [hN] at h; cases h
            | some N =>
              simp only [hN] at h ⊢
              by_cases hl : (lg_sl as).length ≤ gm_ml N
              · rw [if_pos hl] at h ⊢
                cases hc : gm_run f k' 0 (gm_ent N as) [] n rf im lm with
                | none => simp only [hc] at h; cases h
                | some q =>
                  obtain ⟨v, n', rf', im', lm'⟩ := q
                  simp only [hc] at h
                  rw [ih _ _ _ _ _ _ _ _ _ hc]
                  simp only
                  by_cases hn : n' = n + gm_nc N
                  · rw [if_pos hn] at h ⊢
                    exact ih _ _ _ _ _ _ _ _ _ h
                  · rw [if_neg hn] at h; cases h
              · rw [if_neg hl] at h; cases h
theorem gm_mono_le {f g k pc : Nat} {vs st : List Value} {n : Nat} {rf : gm_R} {im : gm_I} {lm : gm_L} {r : gm_Res} (h : gm_run f k pc vs st n rf im lm = some r) (hg : f ≤ g) : gm_run g k pc vs st n rf im lm = some r := by
  induction hg with
  | refl => exact h
  | step _ ih => exact gm_mono _ _ _ _ _ _ _ _ _ _ ih
noncomputable def gm_den (k pc : Nat) (vs st : List Value) (n : Nat) (rf : gm_R) (im : gm_I) (lm : gm_L) : Option gm_Res :=
  @dite _ (∃ r : gm_Res, ∃ f : Nat, gm_run f k pc vs st n rf im lm = some r) (Classical.propDecidable _) (fun h => some (Classical.choose h)) (fun _ => none)
section GMD
variable {k pc : Nat} {vs st : List Value} {n : Nat} {rf : gm_R} {im : gm_I} {lm : gm_L}
theorem gm_den_iff {r : gm_Res} : gm_den k pc vs st n rf im lm = some r ↔ ∃ f : Nat, gm_run f k pc vs st n rf im lm = some r := by
  unfold gm_den
  by_cases h : ∃ r : gm_Res, ∃ f : Nat, gm_run f k pc vs st n rf im lm = some r
  · rw [dif_pos h]
    obtain ⟨f, hf⟩ := Classical.choose_spec h
    constructor
    · intro e
      rw [Option.some.injEq] at e
      exact ⟨f, e ▸ hf⟩
    · rintro ⟨g, hg⟩
      have h1 := gm_mono_le hf (Nat.le_max_left f g)
      have h2 := gm_mono_le hg (Nat.le_max_right f g)
      rw [h1] at h2
      exact h2
  · rw [dif_neg h]
    constructor
    · intro e; cases e
    · rintro ⟨g, hg⟩
      exact absurd ⟨r, g, hg⟩ h
theorem gm_den_nx {M : gm_M} {ins : Instr} {len : Nat} {pc' : Nat} {vs' st' : List Value} {n' : Nat} {rf' : gm_R} {im' : gm_I} {lm' : gm_L} (hM : gm_MT[k]? = some M) (hd : decode (gm_b M) pc = .ok (ins, len)) (hln : gm_lnb ins len = true) (hs : gm_stp M ins pc vs st n rf im lm = gm_nx pc' vs' st' n' rf' im' lm') : gm_den k pc vs st n rf im lm = gm_den k pc' vs' st' n' rf' im' lm' := by
  have key : ∀ f : Nat, gm_run (f + 1) k pc vs st n rf im lm = gm_run f k pc' vs' st' n' rf' im' lm' := by
    intro f
    rw [gm_run]
    simp only [hM, hd, if_pos hln, hs, gm_nx]
  apply Option.ext
  intro r
  rw [gm_den_iff, gm_den_iff]
  constructor
  · rintro ⟨f, hf⟩
    cases f with
    | zero => cases hf
    | succ f => exact ⟨f, key f ▸ hf⟩
  · rintro ⟨f, hf⟩
    exact ⟨f + 1, (key f).trans hf⟩
theorem gm_den_rt {M : gm_M} {ins : Instr} {len : Nat} {r : gm_Res} (hM : gm_MT[k]? = some M) (hd : decode (gm_b M) pc = .ok (ins, len)) (hln : gm_lnb ins len = true) (hs : gm_stp M ins pc vs st n rf im lm = some (.inr (.inl r))) : gm_den k pc vs st n rf im lm = some r := by
  rw [gm_den_iff]
  refine ⟨1, ?_⟩
  rw [gm_run]
  simp only [hM, hd, if_pos hln, hs]
/-- a call, its answer known -/
theorem gm_den_cl {M N : gm_M} {ins : Instr} {len : Nat} {k' pc' : Nat} {as rest : List Value} {v : Option Value} {n' : Nat} {rf' : gm_R} {im' : gm_I} {lm' : gm_L} (hM : gm_MT[k]? = some M) (hd : decode (gm_b M) pc = .ok (ins, len)) (hln : gm_lnb ins len = true) (hs : gm_stp M ins pc vs st n rf im lm = some (.inr (.inr (k', as, pc', rest)))) (hN : gm_MT[k']? = some N) (hl : (lg_sl as).length ≤ gm_ml N)
    (hc : gm_den k' 0 (gm_ent N as) [] n rf im lm = some (v, n', rf', im', lm')) (hn : n' = n + gm_nc N) : gm_den k pc vs st n rf im lm = gm_den k pc' vs (v.toList ++ rest) n' rf' im' lm' := by
  obtain ⟨g, hg⟩ := gm_den_iff.mp hc
  have key : ∀ f : Nat, g ≤ f → gm_run (f + 1) k pc vs st n rf im lm = gm_run f k pc' vs (v.toList ++ rest) n' rf' im' lm' := by
    intro f hf
    rw [gm_run]
    simp only [hM, hd, if_pos hln, hs, hN, if_pos hl, gm_mono_le hg hf, if_pos hn]
  apply Option.ext
  intro r
  rw [gm_den_iff, gm_den_iff]
  constructor
  · rintro ⟨f, hf⟩
    exact ⟨max f g, (key _ (Nat.le_max_right f g)) ▸ gm_mono_le hf (by omega)⟩
  · rintro ⟨f, hf⟩
    exact ⟨max f g + 1, (key _ (Nat.le_max_right f g)).trans (gm_mono_le hf (Nat.le_max_left f g))⟩
end GMD
