/-! equations of gm_den, an instruction each -/
/-- what goes on behind a call -/
noncomputable def gm_cont (k pc : Nat) (vs rest : List Value) (n : Nat) (r : Option gm_Res) : Option gm_Res := match r with
  | some (v, n', rf', im', lm') => if n' = n then gm_den k pc vs (v.toList ++ rest) n' rf' im' lm' else none
  | none => none
theorem gm_cont_i {k pc : Nat} {vs rest : List Value} {n : Nat} {rf : gm_R} {im : gm_I} {lm : gm_L} {x : Int32} : gm_cont k pc vs rest n (some (some (.int x), n, rf, im, lm)) = gm_den k pc vs (.int x :: rest) n rf im lm := if_pos rfl
theorem gm_cont_l {k pc : Nat} {vs rest : List Value} {n : Nat} {rf : gm_R} {im : gm_I} {lm : gm_L} {x : Int64} : gm_cont k pc vs rest n (some (some (.long x), n, rf, im, lm)) = gm_den k pc vs (.long x :: rest) n rf im lm := if_pos rfl
theorem gm_cont_v {k pc : Nat} {vs rest : List Value} {n : Nat} {rf : gm_R} {im : gm_I} {lm : gm_L} : gm_cont k pc vs rest n (some (none, n, rf, im, lm)) = gm_den k pc vs rest n rf im lm := if_pos rfl
theorem gm_cont_n {k pc : Nat} {vs rest : List Value} {n : Nat} : gm_cont k pc vs rest n none = none := rfl
theorem gm_cat_i {x : Int32} : (Value.int x).category = 1 := rfl
theorem gm_cat_r {x : Nat} : (Value.ref x).category = 1 := rfl
theorem gm_cat_n : Value.null.category = 1 := rfl
section GEQ
variable {k pc : Nat} {vs st : List Value} {n : Nat} {rf : gm_R} {im : gm_I} {lm : gm_L} {M : gm_M}
theorem ge_call {N : gm_M} {ins : Instr} {len k' pc' : Nat} {as rest vs' : List Value} (hM : gm_MT[k]? = some M) (hd : decode (gm_b M) pc = .ok (ins, len)) (hln : gm_lnb ins len = true) (hs : gm_stp M ins pc vs st n rf im lm = some (.inr (.inr (k', as, pc', rest)))) (hN : gm_MT[k']? = some N) (hl : (lg_sl as).length ≤ gm_ml N) (h0 : gm_nc N = 0) (he : gm_ent N as = vs') : gm_den k pc vs st n rf im lm = gm_cont k pc' vs rest n (gm_den k' 0 vs' [] n rf im lm) := by
  subst he
  cases hc : gm_den k' 0 (gm_ent N as) [] n rf im lm with
  | some r =>
    obtain ⟨v, n', rf', im', lm'⟩ := r
    by_cases hn : n' = n
    · rw [gm_den_cl hM hd hln hs hN hl hc (by rw [h0]; exact hn)]
      show _ = if n' = n then _ else _
      rw [if_pos hn]
    · show _ = if n' = n then _ else _
      rw [if_neg hn]
      cases hq : gm_den k pc vs st n rf im lm with
      | none => rfl
      | some q =>
        exfalso
        obtain ⟨f, hf⟩ := gm_den_iff.mp hq
        obtain ⟨g, hg⟩ := gm_den_iff.mp hc
        cases f with
        | zero => cases hf
        | succ f =>
          have hf2 := gm_mono_le hf (show f + 1 ≤ max f g + 1 by omega)
          rw [gm_run] at hf2
          simp only [hM, hd, if_pos hln, hs, hN, if_pos hl, gm_mono_le hg (Nat.le_max_right f g), h0, Nat.add_zero, if_neg hn] at hf2
          cases hf2
  | none =>
    show _ = none
    cases hq : gm_den k pc vs st n rf im lm with
    | none => rfl
    | some q =>
      exfalso
      obtain ⟨f, hf⟩ := gm_den_iff.mp hq
      cases f with
      | zero => cases hf
      | succ f =>
        rw [gm_run] at hf
        simp only [hM, hd, if_pos hln, hs, hN, if_pos hl] at hf
        cases hr : gm_run f k' 0 (gm_ent N as) [] n rf im lm with
        | none => simp only [hr] at hf; cases hf
        | some r =>
          have := gm_den_iff.mpr ⟨f, hr⟩
          rw [hc] at this
          cases this
theorem ge_none {ins : Instr} {len : Nat} (hM : gm_MT[k]? = some M) (hd : decode (gm_b M) pc = .ok (ins, len)) (hln : gm_lnb ins len = true) (hs : gm_stp M ins pc vs st n rf im lm = none) : gm_den k pc vs st n rf im lm = none := by
  cases hq : gm_den k pc vs st n rf im lm with
  | none => rfl
  | some q =>
    exfalso
    obtain ⟨f, hf⟩ := gm_den_iff.mp hq
    cases f with
    | zero => cases hf
    | succ f =>
      rw [gm_run] at hf
      simp only [hM, hd, if_pos hln, hs] at hf
      cases hf
theorem ge_iconst {c : Int} {v : Int32} (hM : gm_MT[k]? = some M) (hd : decode (gm_b M) pc = .ok (.iconst c, 1)) (hv : Int32.ofInt c = v) : gm_den k pc vs st n rf im lm = gm_den k (pc + 1) vs (.int v :: st) n rf im lm := by subst hv; exact gm_den_nx hM hd rfl rfl
theorem ge_bipush {c : Int} {v : Int32} (hM : gm_MT[k]? = some M) (hd : decode (gm_b M) pc = .ok (.bipush c, 2)) (hv : (Int8.ofInt c).toInt32 = v) : gm_den k pc vs st n rf im lm = gm_den k (pc + 2) vs (.int v :: st) n rf im lm := by subst hv; exact gm_den_nx hM hd rfl rfl
theorem ge_sipush {c : Int} {v : Int32} (hM : gm_MT[k]? = some M) (hd : decode (gm_b M) pc = .ok (.sipush c, 3)) (hv : (Int16.ofInt c).toInt32 = v) : gm_den k pc vs st n rf im lm = gm_den k (pc + 3) vs (.int v :: st) n rf im lm := by subst hv; exact gm_den_nx hM hd rfl rfl
theorem ge_lconst {c : Fin 2} {v : Int64} (hM : gm_MT[k]? = some M) (hd : decode (gm_b M) pc = .ok (.lconst c, 1)) (hv : Int64.ofNat (c : Nat) = v) : gm_den k pc vs st n rf im lm = gm_den k (pc + 1) vs (.long v :: st) n rf im lm := by subst hv; exact gm_den_nx hM hd rfl rfl
theorem ge_ldcw {i p : Nat} {v : Int32} (hM : gm_MT[k]? = some M) (hd : decode (gm_b M) pc = .ok (.ldc_w i, 3)) (hk : gm_k (gm_own M) i = some (v, p)) : gm_den k pc vs st n rf im lm = gm_den k (pc + 3) vs (.int v :: st) n rf im lm := gm_den_nx hM hd rfl (by simp only [gm_stp, hk])
theorem ge_ldc2 {i p : Nat} {v : Int64} (hM : gm_MT[k]? = some M) (hd : decode (gm_b M) pc = .ok (.ldc2_w i, 3)) (hk : gm_kl (gm_own M) i = some (v, p)) : gm_den k pc vs st n rf im lm = gm_den k (pc + 3) vs (.long v :: st) n rf im lm := gm_den_nx hM hd rfl (by simp only [gm_stp, hk])
theorem ge_getI {i o a ci s p : Nat} (hM : gm_MT[k]? = some M) (hd : decode (gm_b M) pc = .ok (.getfield i, 3)) (hf : gm_f (gm_own M) i = some (a, ci, s, p)) (hl : gm_LAY[o]? = some (0, ci)) (ho : o < n) (hy : gm_fy ci s = 0 ∨ gm_fy ci s = 3) : gm_den k pc vs (.ref o :: st) n rf im lm = gm_den k (pc + 3) vs (.int (im o s) :: st) n rf im lm := gm_den_nx hM hd rfl (by rcases hy with hy | hy <;> simp only [gm_stp, hf, gm_get, gm_a, hy, ho, hl, and_self, if_true])
theorem ge_getL {i o a ci s p : Nat} (hM : gm_MT[k]? = some M) (hd : decode (gm_b M) pc = .ok (.getfield i, 3)) (hf : gm_f (gm_own M) i = some (a, ci, s, p)) (hl : gm_LAY[o]? = some (0, ci)) (ho : o < n) (hy : gm_fy ci s = 1) : gm_den k pc vs (.ref o :: st) n rf im lm = gm_den k (pc + 3) vs (.long (lm o s) :: st) n rf im lm := gm_den_nx hM hd rfl (by simp only [gm_stp, hf, gm_get, gm_a, hy, ho, hl, and_self, if_true])
theorem ge_getR {i o a ci s p q : Nat} (hM : gm_MT[k]? = some M) (hd : decode (gm_b M) pc = .ok (.getfield i, 3)) (hf : gm_f (gm_own M) i = some (a, ci, s, p)) (hl : gm_LAY[o]? = some (0, ci)) (ho : o < n) (hy : gm_fy ci s = 2) (hq : rf o s = some q) (h9 : ¬ q = 1030) : gm_den k pc vs (.ref o :: st) n rf im lm = gm_den k (pc + 3) vs (.ref q :: st) n rf im lm := gm_den_nx hM hd rfl (by simp only [gm_stp, hf, gm_get, gm_a, hy, ho, hl, and_self, if_true, hq, h9, if_false])
theorem ge_putI {i o a ci s p : Nat} {x : Int32} (hM : gm_MT[k]? = some M) (hd : decode (gm_b M) pc = .ok (.putfield i, 3)) (hf : gm_f (gm_own M) i = some (a, ci, s, p)) (hl : gm_LAY[o]? = some (0, ci)) (ho : o < n) (hn : gm_fin ci s = false) (hy : gm_fy ci s = 0 ∨ (gm_fy ci s = 3 ∧ (x = 0 ∨ x = 1))) : gm_den k pc vs (.int x :: .ref o :: st) n rf im lm = gm_den k (pc + 3) vs st n rf (gm_up im o s x) lm := gm_den_nx hM hd rfl (by simp [gm_stp, hf, gm_put, hn, ho, hl, hy])
theorem ge_putL {i o a ci s p : Nat} {x : Int64} (hM : gm_MT[k]? = some M) (hd : decode (gm_b M) pc = .ok (.putfield i, 3)) (hf : gm_f (gm_own M) i = some (a, ci, s, p)) (hl : gm_LAY[o]? = some (0, ci)) (ho : o < n) (hn : gm_fin ci s = false) (hy : gm_fy ci s = 1) : gm_den k pc vs (.long x :: .ref o :: st) n rf im lm = gm_den k (pc + 3) vs st n rf im (gm_up lm o s x) := gm_den_nx hM hd rfl (by simp [gm_stp, hf, gm_put, hn, ho, hl, hy])
theorem ge_getS {i q p : Nat} (hM : gm_MT[k]? = some M) (hd : decode (gm_b M) pc = .ok (.getstatic i, 3)) (hq : gm_st (gm_own M) i = some (q, p)) : gm_den k pc vs st n rf im lm = gm_den k (pc + 3) vs (.ref q :: st) n rf im lm := gm_den_nx hM hd rfl (by simp only [gm_stp, hq])
/-- a row is read -/
theorem ge_iald {a z : Nat} {i : Int32} (hM : gm_MT[k]? = some M) (hd : decode (gm_b M) pc = .ok (.iaload, 1)) (hz : gm_at im n a = some (1, z)) : gm_den k pc vs (.int i :: .ref a :: st) n rf im lm = if gm_in i z = true then gm_den k (pc + 1) vs (.int (im a i.toNatClampNeg) :: st) n rf im lm else none := by
  by_cases h : gm_in i z = true
  · rw [if_pos h]; exact gm_den_nx hM hd rfl (by simp only [gm_stp, hz, h, if_true])
  · rw [if_neg h]; exact ge_none hM hd rfl (by simp only [gm_stp, hz, h]; rfl)
theorem ge_bald {a z kd : Nat} {i : Int32} (hM : gm_MT[k]? = some M) (hd : decode (gm_b M) pc = .ok (.baload, 1)) (hz : gm_at im n a = some (kd, z)) (hk : kd = 2 ∨ kd = 3) : gm_den k pc vs (.int i :: .ref a :: st) n rf im lm = if gm_in i z = true then gm_den k (pc + 1) vs (.int (im a i.toNatClampNeg) :: st) n rf im lm else none := by
  by_cases h : gm_in i z = true
  · rw [if_pos h]; exact gm_den_nx hM hd rfl (by rcases hk with rfl | rfl <;> simp only [gm_stp, hz, h, if_true])
  · rw [if_neg h]; exact ge_none hM hd rfl (by rcases hk with rfl | rfl <;> (simp only [gm_stp, hz, h]; rfl))
theorem ge_lald {a z : Nat} {i : Int32} (hM : gm_MT[k]? = some M) (hd : decode (gm_b M) pc = .ok (.laload, 1)) (ha : a < n) (hz : gm_LAY[a]? = some (4, z)) : gm_den k pc vs (.int i :: .ref a :: st) n rf im lm = if gm_in i z = true then gm_den k (pc + 1) vs (.long (lm a i.toNatClampNeg) :: st) n rf im lm else none := by
  by_cases h : gm_in i z = true
  · rw [if_pos h]; exact gm_den_nx hM hd rfl (by simp only [gm_stp, hz, ha, h, if_true])
  · rw [if_neg h]; exact ge_none hM hd rfl (by simp only [gm_stp, hz, ha, h, if_true]; rfl)
theorem ge_iast {a z : Nat} {i x : Int32} (hM : gm_MT[k]? = some M) (hd : decode (gm_b M) pc = .ok (.iastore, 1)) (ha : a < n) (hz : gm_LAY[a]? = some (1, z)) : gm_den k pc vs (.int x :: .int i :: .ref a :: st) n rf im lm = if gm_in i z = true then gm_den k (pc + 1) vs st n rf (gm_up im a i.toNatClampNeg x) lm else none := by
  by_cases h : gm_in i z = true
  · rw [if_pos h]; exact gm_den_nx hM hd rfl (by simp only [gm_stp, hz, ha, h, if_true])
  · rw [if_neg h]; exact ge_none hM hd rfl (by simp only [gm_stp, hz, ha, h, if_true]; rfl)
theorem ge_bast {a z : Nat} {i x : Int32} (hM : gm_MT[k]? = some M) (hd : decode (gm_b M) pc = .ok (.bastore, 1)) (ha : a < n) (hz : gm_LAY[a]? = some (2, z)) : gm_den k pc vs (.int x :: .int i :: .ref a :: st) n rf im lm = if gm_in i z = true then gm_den k (pc + 1) vs st n rf (gm_up im a i.toNatClampNeg x.toInt8.toInt32) lm else none := by
  by_cases h : gm_in i z = true
  · rw [if_pos h]; exact gm_den_nx hM hd rfl (by simp only [gm_stp, hz, ha, h, if_true])
  · rw [if_neg h]; exact ge_none hM hd rfl (by simp only [gm_stp, hz, ha, h, if_true]; rfl)
theorem ge_zast {a z : Nat} {i x : Int32} (hM : gm_MT[k]? = some M) (hd : decode (gm_b M) pc = .ok (.bastore, 1)) (ha : a < n) (hz : gm_LAY[a]? = some (3, z)) (hx : x = 0 ∨ x = 1) : gm_den k pc vs (.int x :: .int i :: .ref a :: st) n rf im lm = if gm_in i z = true then gm_den k (pc + 1) vs st n rf (gm_up im a i.toNatClampNeg x) lm else none := by
  by_cases h : gm_in i z = true
  · rw [if_pos h]; exact gm_den_nx hM hd rfl (by simp only [gm_stp, hz, ha, h, hx, and_self, if_true])
  · rw [if_neg h]; exact ge_none hM hd rfl (by simp only [gm_stp, hz, ha, h, if_true, false_and]; rfl)
theorem ge_last {a z : Nat} {i : Int32} {x : Int64} (hM : gm_MT[k]? = some M) (hd : decode (gm_b M) pc = .ok (.lastore, 1)) (ha : a < n) (hz : gm_LAY[a]? = some (4, z)) : gm_den k pc vs (.long x :: .int i :: .ref a :: st) n rf im lm = if gm_in i z = true then gm_den k (pc + 1) vs st n rf im (gm_up lm a i.toNatClampNeg x) else none := by
  by_cases h : gm_in i z = true
  · rw [if_pos h]; exact gm_den_nx hM hd rfl (by simp only [gm_stp, hz, ha, h, if_true])
  · rw [if_neg h]; exact ge_none hM hd rfl (by simp only [gm_stp, hz, ha, h, if_true]; rfl)
theorem ge_aald {a z : Nat} {i : Int32} (hM : gm_MT[k]? = some M) (hd : decode (gm_b M) pc = .ok (.aaload, 1)) (ha : a < n) (hz : gm_LAY[a]? = some (5, z)) (hi : gm_in i z = true) {q : Nat} (hq : rf a i.toNatClampNeg = some q) (h9 : ¬ q = 1030) : gm_den k pc vs (.int i :: .ref a :: st) n rf im lm = gm_den k (pc + 1) vs (.ref q :: st) n rf im lm := gm_den_nx hM hd rfl (by simp only [gm_stp, hz, ha, hi, if_true, hq, h9, if_false])
theorem ge_alen {a z kd : Nat} (hM : gm_MT[k]? = some M) (hd : decode (gm_b M) pc = .ok (.arraylength, 1)) (hz : gm_at im n a = some (kd + 1, z)) : gm_den k pc vs (.ref a :: st) n rf im lm = gm_den k (pc + 1) vs (.int (Int32.ofNat z) :: st) n rf im lm := gm_den_nx hM hd rfl (by simp only [gm_stp, gm_a, hz])
theorem ge_div {x y : Int32} (hM : gm_MT[k]? = some M) (hd : decode (gm_b M) pc = .ok (.idiv, 1)) : gm_den k pc vs (.int y :: .int x :: st) n rf im lm = if y = 0 then none else gm_den k (pc + 1) vs (.int (x / y) :: st) n rf im lm := by
  by_cases h : y = 0
  · rw [if_pos h]; exact ge_none hM hd rfl (by simp only [gm_stp, gm_ii, h, if_true])
  · rw [if_neg h]; exact gm_den_nx hM hd rfl (by simp only [gm_stp, gm_ii, h, if_false])
theorem ge_rem {x y : Int32} (hM : gm_MT[k]? = some M) (hd : decode (gm_b M) pc = .ok (.irem, 1)) : gm_den k pc vs (.int y :: .int x :: st) n rf im lm = if y = 0 then none else gm_den k (pc + 1) vs (.int (x - x / y * y) :: st) n rf im lm := by
  by_cases h : y = 0
  · rw [if_pos h]; exact ge_none hM hd rfl (by simp only [gm_stp, gm_ii, h, if_true])
  · rw [if_neg h]; exact gm_den_nx hM hd rfl (by simp only [gm_stp, gm_ii, h, if_false])
/-- stores to locals -/
theorem ge_s1 {ins : Instr} {len i d : Nat} {v : Value} {st0 : List Value} (hM : gm_MT[k]? = some M) (hd : decode (gm_b M) pc = .ok (ins, len)) (hln : gm_lnb ins len = true) (hs : ∀ ws, gm_s1 vs i v = some ws → gm_stp M ins pc vs st0 n rf im lm = gm_nx (pc + d) ws st n rf im lm) {ws : List Value} (hw : vs.set i v = ws) (hi : i < vs.length) (hp : gm_pv vs i = true) : gm_den k pc vs st0 n rf im lm = gm_den k (pc + d) ws st n rf im lm := by
  subst hw
  exact gm_den_nx hM hd hln (hs _ (by unfold gm_s1; rw [if_pos (by simp [hi, hp])]))
theorem ge_s2 {ins : Instr} {len i d : Nat} {v : Value} {st0 : List Value} (hM : gm_MT[k]? = some M) (hd : decode (gm_b M) pc = .ok (ins, len)) (hln : gm_lnb ins len = true) (hs : ∀ ws, gm_s2 vs i v = some ws → gm_stp M ins pc vs st0 n rf im lm = gm_nx (pc + d) ws st n rf im lm) {ws : List Value} (hw : (vs.set i v).set (i + 1) .null = ws) (hi : i + 1 < vs.length) (hp : gm_pv vs i = true) : gm_den k pc vs st0 n rf im lm = gm_den k (pc + d) ws st n rf im lm := by
  subst hw
  exact gm_den_nx hM hd hln (hs _ (by unfold gm_s2; rw [if_pos (by simp [hi, hp])]))
theorem gm_pvc {vs : List Value} {i : Nat} {v : Value} (h : vs[i]? = some v) (hc : v.category = 1) : gm_pv vs (i + 1) = true := by simp [gm_pv, h, hc]
/-- branches -/
theorem ge_if {c : ClassFile.Cond} {off : Int} {t : Nat} {x : Int32} {P : Prop} [Decidable P] (hM : gm_MT[k]? = some M) (hd : decode (gm_b M) pc = .ok (.ifCond c off, 3)) (ht : gm_j pc off = some t) (hP : gm_cd c x 0 = true ↔ P) : gm_den k pc vs (.int x :: st) n rf im lm = if P then gm_den k t vs st n rf im lm else gm_den k (pc + 3) vs st n rf im lm := by
  by_cases h : P
  · rw [if_pos h]; exact gm_den_nx hM hd rfl (by simp only [gm_stp, ht, gm_i, hP.mpr h, if_true])
  · rw [if_neg h]
    have h2 : gm_cd c x 0 = false := by cases hc : gm_cd c x 0 with
      | false => rfl
      | true => exact absurd (hP.mp hc) h
    exact gm_den_nx hM hd rfl (by simp only [gm_stp, ht, gm_i, h2]; rfl)
theorem ge_ic {c : ClassFile.Cond} {off : Int} {t : Nat} {x y : Int32} {P : Prop} [Decidable P] (hM : gm_MT[k]? = some M) (hd : decode (gm_b M) pc = .ok (.if_icmp c off, 3)) (ht : gm_j pc off = some t) (hP : gm_cd c x y = true ↔ P) : gm_den k pc vs (.int y :: .int x :: st) n rf im lm = if P then gm_den k t vs st n rf im lm else gm_den k (pc + 3) vs st n rf im lm := by
  by_cases h : P
  · rw [if_pos h]; exact gm_den_nx hM hd rfl (by simp only [gm_stp, ht, gm_ii, hP.mpr h, if_true])
  · rw [if_neg h]
    have h2 : gm_cd c x y = false := by cases hc : gm_cd c x y with
      | false => rfl
      | true => exact absurd (hP.mp hc) h
    exact gm_den_nx hM hd rfl (by simp only [gm_stp, ht, gm_ii, h2]; rfl)
theorem ge_goto {off : Int} {t : Nat} (hM : gm_MT[k]? = some M) (hd : decode (gm_b M) pc = .ok (.goto off, 3)) (ht : gm_j pc off = some t) : gm_den k pc vs st n rf im lm = gm_den k t vs st n rf im lm := gm_den_nx hM hd rfl (by simp only [gm_stp, gm_jm, ht])
theorem ge_iret {x : Int32} {ty : FieldType} (hM : gm_MT[k]? = some M) (hd : decode (gm_b M) pc = .ok (.ireturn, 1)) (ht : gm_ret M = some ty) (h1 : narrow ty (.int x) = .int x) (h2 : ty ≠ .long) : gm_den k pc vs [.int x] n rf im lm = some (some (.int x), n, rf, im, lm) := gm_den_rt hM hd rfl (by simp [gm_stp, gm_i, ht, h1, h2])
theorem ge_lret {x : Int64} (hM : gm_MT[k]? = some M) (hd : decode (gm_b M) pc = .ok (.lreturn, 1)) (ht : gm_ret M = some .long) : gm_den k pc vs [.long x] n rf im lm = some (some (.long x), n, rf, im, lm) := gm_den_rt hM hd rfl (by simp [gm_stp, gm_l, ht])
theorem ge_vret (hM : gm_MT[k]? = some M) (hd : decode (gm_b M) pc = .ok (.return_, 1)) (ht : gm_ret M = none) : gm_den k pc vs [] n rf im lm = some (none, n, rf, im, lm) := gm_den_rt hM hd rfl (by simp [gm_stp, ht])
theorem ge_max {i : Nat} {t : Nat × Nat × Nat × Nat} {x y : Int32} (hM : gm_MT[k]? = some M) (hd : decode (gm_b M) pc = .ok (.invokestatic i, 3)) (hc : gm_c (gm_own M) i = some (11, t)) (hR : 1 ≤ gm_fr M ∧ 30 ≤ gm_lo M ∧ gm_nc M = 0) (hs : (st.map fun v => v.category).sum ≤ 8) : gm_den k pc vs (.int y :: .int x :: st) n rf im lm = gm_den k (pc + 3) vs (.int (if x < y then y else x) :: st) n rf im lm := gm_den_nx hM hd rfl (by simp only [gm_stp, hc, gm_ii, hR.1, hR.2.1, hR.2.2, hs, and_self, if_true])
theorem ge_min {i : Nat} {t : Nat × Nat × Nat × Nat} {x y : Int32} (hM : gm_MT[k]? = some M) (hd : decode (gm_b M) pc = .ok (.invokestatic i, 3)) (hc : gm_c (gm_own M) i = some (12, t)) (hR : 1 ≤ gm_fr M ∧ 30 ≤ gm_lo M ∧ gm_nc M = 0) (hs : (st.map fun v => v.category).sum ≤ 8) : gm_den k pc vs (.int y :: .int x :: st) n rf im lm = gm_den k (pc + 3) vs (.int (if y < x then y else x) :: st) n rf im lm := gm_den_nx hM hd rfl (by simp only [gm_stp, hc, gm_ii, hR.1, hR.2.1, hR.2.2, hs, and_self, if_true])
theorem ge_tsw {d lo hi : Int} {offs : Array Int} {len : Nat} {x : Int32} {t : Nat} (hM : gm_MT[k]? = some M) (hd : decode (gm_b M) pc = .ok (.tableswitch d lo hi offs, len)) (h : (x.toInt < lo ∨ hi < x.toInt) → gm_j pc d = some t) (h2 : ¬ (x.toInt < lo ∨ hi < x.toInt) → ∃ off, offs[(x.toInt - lo).toNat]? = some off ∧ gm_j pc off = some t) : gm_den k pc vs (.int x :: st) n rf im lm = gm_den k t vs st n rf im lm := by
  refine gm_den_nx hM hd rfl ?_
  simp only [gm_stp, gm_i]
  by_cases h9 : x.toInt < lo ∨ hi < x.toInt
  · rw [if_pos h9]; simp only [gm_jm, h h9]
  · rw [if_neg h9]
    obtain ⟨off, h3, h4⟩ := h2 h9
    simp only [h3, gm_jm, h4]
end GEQ
