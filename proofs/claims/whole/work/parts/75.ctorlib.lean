/-! equations for constructors: calls that make cells, new rows -/
section GEK
variable {k pc : Nat} {vs st : List Value} {n : Nat} {rf : gm_R} {im : gm_I} {lm : gm_L} {M N : gm_M} {as rest vs' : List Value}
theorem ge_callN {ins : Instr} {len k' pc' n2 : Nat} (hM : gm_MT[k]? = some M) (hd : decode (gm_b M) pc = .ok (ins, len)) (hln : gm_lnb ins len = true) (hs : gm_stp M ins pc vs st n rf im lm = some (.inr (.inr (k', as, pc', rest)))) (hN : gm_MT[k']? = some N) (hl : (lg_sl as).length ≤ gm_ml N) (h0 : n + gm_nc N = n2) (he : gm_ent N as = vs') : gm_den k pc vs st n rf im lm = gm_cont k pc' vs rest n2 (gm_den k' 0 vs' [] n rf im lm) := by
  subst he
  cases hc : gm_den k' 0 (gm_ent N as) [] n rf im lm with
  | some r =>
    obtain ⟨v, n', rf', im', lm'⟩ := r
    by_cases hn : n' = n2
    · rw [gm_den_cl hM hd hln hs hN hl hc (by rw [h0]; exact hn)]
      show _ = if n' = n2 then _ else _
      rw [if_pos hn]
    · show _ = if n' = n2 then _ else _
      rw [if_neg hn]
      cases hq : gm_den k pc vs st n rf im lm with
      | none => rfl
      | some q =>
        exfalso
        obtain ⟨f, hf⟩ := gm_den_iff.mp hq
        obtain ⟨g, hg⟩ := gm_den_iff.mp hc
        cases f with
        | zero => cases hf
        | succ f =>
          have hf2 := gm_mono_le hf (show f + 1 ≤ max f g + 1 by omega)
          rw [gm_run] at hf2
          simp only [hM, hd, if_pos hln, hs, hN, if_pos hl, gm_mono_le hg (Nat.le_max_right f g), h0, if_neg hn] at hf2
          cases hf2
  | none =>
    show _ = none
    cases hq : gm_den k pc vs st n rf im lm with
    | none => rfl
    | some q =>
      exfalso
      obtain ⟨f, hf⟩ := gm_den_iff.mp hq
      cases f with
      | zero => cases hf
      | succ f =>
        rw [gm_run] at hf
        simp only [hM, hd, if_pos hln, hs, hN, if_pos hl] at hf
        cases hr : gm_run f k' 0 (gm_ent N as) [] n rf im lm with
        | none => simp only [hr] at hf; cases hf
        | some r =>
          have := gm_den_iff.mpr ⟨f, hr⟩
          rw [hc] at this
          cases this
theorem ge_ctor {i k' o kd n2 : Nat} {t : Nat × Nat × Nat} {as' : List Value} (hM : gm_MT[k]? = some M) (hd : decode (gm_b M) pc = .ok (.invokespecial i, 3)) (hc : gm_c (gm_own M) i = some (kd, k', t)) (hkd : kd = 2 ∨ kd = 3) (hN : gm_MT[k']? = some N) (hst : st = (Value.ref o :: as').reverse ++ rest) (hlen : as'.length = gm_np N) (ho : o < n) (hrm : gm_rm M N n rest = true) (hl : (lg_sl (Value.ref o :: as')).length ≤ gm_ml N) (h0 : n + gm_nc N = n2) (he : gm_ent N (Value.ref o :: as') = vs') : gm_den k pc vs st n rf im lm = gm_cont k (pc + 3) vs rest n2 (gm_den k' 0 vs' [] n rf im lm) := by
  have hr : st[gm_np N]? = some (.ref o) := by
    rw [hst, List.reverse_cons, List.append_assoc, List.getElem?_append_right (by rw [List.length_reverse]; omega), List.length_reverse, hlen, Nat.sub_self]
    rfl
  refine ge_callN hM hd rfl ?_ hN hl h0 he
  rcases hkd with rfl | rfl <;> (simp only [gm_stp, hc, hN, hr, ho, if_true]; exact gm_cl_ok hN hst (by simp [hlen]) hrm)
theorem ge_obj {i a : Nat} {t : Nat × Nat × Nat × Nat} (hM : gm_MT[k]? = some M) (hd : decode (gm_b M) pc = .ok (.invokespecial i, 3)) (hc : gm_c (gm_own M) i = some (6, t)) (h1 : 1 ≤ gm_fr M ∧ 20 ≤ gm_lo M) (h9 : a ≠ 1030) : gm_den k pc vs [.ref a] n rf im lm = gm_den k (pc + 3) vs [] n rf im lm := gm_den_nx hM hd rfl (by
  have h2 : ((([] : List Value).map fun v => v.category).sum ≤ 8 ∧ a ≠ 1030) := ⟨by decide, h9⟩
  simp only [gm_stp, hc, h1, gm_a, and_self, if_true]
  exact if_pos h2)
theorem ge_new {i : Nat} {q : Nat × Nat × Nat × Nat} (hM : gm_MT[k]? = some M) (hd : decode (gm_b M) pc = .ok (.new i, 3)) (hn : gm_n (gm_own M) i = some q) (hl : gm_LAY[n]? = some (0, q.1)) (h1 : n + 1 ≤ gm_s0 M + gm_nc M) (h2 : gm_s0 M ≤ n) : gm_den k pc vs st n rf im lm = gm_den k (pc + 3) vs (.ref n :: st) (n + 1) (gm_zr rf n 1 none) (gm_zr im n 1 0) (gm_zr lm n 1 0) := gm_den_nx hM hd rfl (by simp only [gm_stp, hn, gm_new, hl, h1, h2, and_self, if_true])
theorem ge_nwi {z : Int32} {w : Nat} (hM : gm_MT[k]? = some M) (hd : decode (gm_b M) pc = .ok (.newarray .int, 2)) (hz : z.toNatClampNeg = w) (hz0 : ¬ z < 0) (hl : gm_LAY[n]? = some (1, w)) (h1 : n + 1 ≤ gm_s0 M + gm_nc M) (h2 : gm_s0 M ≤ n) : gm_den k pc vs (.int z :: st) n rf im lm = gm_den k (pc + 2) vs (.ref n :: st) (n + 1) (gm_zr rf n 1 none) (gm_zr im n 1 0) (gm_zr lm n 1 0) := gm_den_nx hM hd rfl (by subst hz; simp only [gm_stp, gm_i, gm_nwa, hl, hz0, h1, h2, not_false_eq_true, and_self, if_true])
theorem ge_nwb {z : Int32} {w : Nat} (hM : gm_MT[k]? = some M) (hd : decode (gm_b M) pc = .ok (.newarray .byte, 2)) (hz : z.toNatClampNeg = w) (hz0 : ¬ z < 0) (hl : gm_LAY[n]? = some (2, w)) (h1 : n + 1 ≤ gm_s0 M + gm_nc M) (h2 : gm_s0 M ≤ n) : gm_den k pc vs (.int z :: st) n rf im lm = gm_den k (pc + 2) vs (.ref n :: st) (n + 1) (gm_zr rf n 1 none) (gm_zr im n 1 0) (gm_zr lm n 1 0) := gm_den_nx hM hd rfl (by subst hz; simp only [gm_stp, gm_i, gm_nwa, hl, hz0, h1, h2, not_false_eq_true, and_self, if_true])
theorem ge_nwz {z : Int32} {w : Nat} (hM : gm_MT[k]? = some M) (hd : decode (gm_b M) pc = .ok (.newarray .boolean, 2)) (hz : z.toNatClampNeg = w) (hz0 : ¬ z < 0) (hl : gm_LAY[n]? = some (3, w)) (h1 : n + 1 ≤ gm_s0 M + gm_nc M) (h2 : gm_s0 M ≤ n) : gm_den k pc vs (.int z :: st) n rf im lm = gm_den k (pc + 2) vs (.ref n :: st) (n + 1) (gm_zr rf n 1 none) (gm_zr im n 1 0) (gm_zr lm n 1 0) := gm_den_nx hM hd rfl (by subst hz; simp only [gm_stp, gm_i, gm_nwa, hl, hz0, h1, h2, not_false_eq_true, and_self, if_true])
theorem ge_nwl {z : Int32} {w : Nat} (hM : gm_MT[k]? = some M) (hd : decode (gm_b M) pc = .ok (.newarray .long, 2)) (hz : z.toNatClampNeg = w) (hz0 : ¬ z < 0) (hl : gm_LAY[n]? = some (4, w)) (h1 : n + 1 ≤ gm_s0 M + gm_nc M) (h2 : gm_s0 M ≤ n) : gm_den k pc vs (.int z :: st) n rf im lm = gm_den k (pc + 2) vs (.ref n :: st) (n + 1) (gm_zr rf n 1 none) (gm_zr im n 1 0) (gm_zr lm n 1 0) := gm_den_nx hM hd rfl (by subst hz; simp only [gm_stp, gm_i, gm_nwa, hl, hz0, h1, h2, not_false_eq_true, and_self, if_true])
def gm_zra (rf : gm_R) (n w : Nat) : gm_R := fun q j => if q = n then (if j < w then some (n + 1 + j) else none) else gm_zr rf n (1 + w) none q j
theorem ge_mna {a b : Int32} {w z : Nat} (hM : gm_MT[k]? = some M) (hd : decode (gm_b M) pc = .ok (.multianewarray 11 2, 4)) (ho : gm_own M = 3) (ha : a.toNatClampNeg = w) (hb : b.toNatClampNeg = z) (h0 : ¬ a < 0) (h1 : ¬ b < 0) (h2 : z ≤ 10000) (hl : gm_LAY[n]? = some (5, w)) (hj : ∀ j, j < w → gm_LAY[n + 1 + j]? = some (1, z)) (h3 : n + (1 + w) ≤ gm_s0 M + gm_nc M) (h4 : gm_s0 M ≤ n) : gm_den k pc vs (.int b :: .int a :: st) n rf im lm = gm_den k (pc + 4) vs (.ref n :: st) (n + 1 + w) (gm_zra rf n w) (gm_zr im n (1 + w) 0) (gm_zr lm n (1 + w) 0) := gm_den_nx hM hd rfl (by
  subst ha hb
  have hc : gm_LAY[n]? = some (5, a.toNatClampNeg) ∧ ¬ a < 0 ∧ ¬ b < 0 ∧ b.toNatClampNeg ≤ 10000 ∧ (∀ j, j < a.toNatClampNeg → gm_LAY[n + 1 + j]? = some (1, b.toNatClampNeg)) ∧ n + (1 + a.toNatClampNeg) ≤ gm_s0 M + gm_nc M ∧ gm_s0 M ≤ n := ⟨hl, h0, h1, h2, hj, h3, h4⟩
  simp only [gm_stp, ho, and_self, if_true, gm_ii, gm_mna]
  rw [if_pos hc]
  rfl)
theorem ge_putR {i o q ci s p : Nat} (hM : gm_MT[k]? = some M) (hd : decode (gm_b M) pc = .ok (.putfield i, 3)) (hf : gm_f (gm_own M) i = some (0, ci, s, p)) (hl : gm_LAY[o]? = some (0, ci)) (ho : o < n) (hq : q < n) (hn : gm_fin ci s = true) (hy : gm_fy ci s = 2) (hi : (gm_y M).name = "<init>") (hown : gm_On[gm_own M]? = (vwCl[ci]?).map (fun c => c.1)) : gm_den k pc vs (.ref q :: .ref o :: st) n rf im lm = gm_den k (pc + 3) vs st n (gm_up rf o s (some q)) im lm := gm_den_nx hM hd rfl (by simp [gm_stp, hf, gm_put, hn, ho, hq, hl, hy, hi, hown])
end GEK
