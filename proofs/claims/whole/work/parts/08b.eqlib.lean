/-! equations of gm_den: calls, increments, arraycopy -/
section GEC
variable {k pc : Nat} {vs st : List Value} {n : Nat} {rf : gm_R} {im : gm_I} {lm : gm_L} {M N : gm_M} {as rest vs' : List Value}
theorem gm_cl_ok {k' np : Nat} (hN : gm_MT[k']? = some N) (hst : st = as.reverse ++ rest) (hlen : as.length = np) (hrm : gm_rm M N n rest = true) : gm_cl M k' pc vs st n np = some (.inr (.inr (k', as, pc + 3, rest))) := by
  subst hst hlen
  have h1 : (as.reverse ++ rest).drop as.length = rest := by rw [List.drop_append_of_le_length (by simp)]; simp
  have h2 : (as.reverse ++ rest).take as.length = as.reverse := by rw [List.take_append_of_le_length (by simp), ← List.length_reverse (as := as), List.take_length]
  unfold gm_cl
  simp only [hN, h1, h2, hrm, List.reverse_reverse]
  rw [if_pos (by simp)]
theorem ge_callS {i k' : Nat} {t : Nat × Nat × Nat} (hM : gm_MT[k]? = some M) (hd : decode (gm_b M) pc = .ok (.invokestatic i, 3)) (hc : gm_c (gm_own M) i = some (0, k', t)) (hN : gm_MT[k']? = some N) (hst : st = as.reverse ++ rest) (hlen : as.length = gm_np N) (hrm : gm_rm M N n rest = true) (hl : (lg_sl as).length ≤ gm_ml N) (h0 : gm_nc N = 0) (he : gm_ent N as = vs') : gm_den k pc vs st n rf im lm = gm_cont k (pc + 3) vs rest n (gm_den k' 0 vs' [] n rf im lm) :=
  ge_call hM hd rfl (by simp only [gm_stp, hc, hN]; exact gm_cl_ok hN hst hlen hrm) hN hl h0 he
theorem ge_callSN {i k' : Nat} {t : Nat × Nat × Nat} (hM : gm_MT[k]? = some M) (hd : decode (gm_b M) pc = .ok (.invokestatic i, 3)) (hc : gm_c (gm_own M) i = some (4, k', t)) (hN : gm_MT[k']? = some N) (hst : st = as.reverse ++ rest) (hlen : as.length = gm_np N) (hrm : gm_rm M N n rest = true) (hl : (lg_sl as).length ≤ gm_ml N) (h0 : gm_nc N = 0) (he : gm_ent N as = vs') : gm_den k pc vs st n rf im lm = gm_cont k (pc + 3) vs rest n (gm_den k' 0 vs' [] n rf im lm) :=
  ge_call hM hd rfl (by simp only [gm_stp, hc, hN]; exact gm_cl_ok hN hst hlen hrm) hN hl h0 he
theorem ge_callV {i k' o ci : Nat} {t : Nat × Nat × Nat} {as' : List Value} (hM : gm_MT[k]? = some M) (hd : decode (gm_b M) pc = .ok (.invokevirtual i, 3)) (hc : gm_c (gm_own M) i = some (1, k', t)) (hN : gm_MT[k']? = some N) (hst : st = (Value.ref o :: as').reverse ++ rest) (hlen : as'.length = gm_np N) (ho : o < n) (hla : gm_LAY[o]? = some (0, ci)) (hix : vwCl.findIdx? (fun c => c.1 == (gm_y N).cls) = some ci) (hs9 : (gm_y N).cls ≠ "java/lang/String") (hrm : gm_rm M N n rest = true) (hl : (lg_sl (Value.ref o :: as')).length ≤ gm_ml N) (h0 : gm_nc N = 0) (he : gm_ent N (Value.ref o :: as') = vs') : gm_den k pc vs st n rf im lm = gm_cont k (pc + 3) vs rest n (gm_den k' 0 vs' [] n rf im lm) := by
  have hr : st[gm_np N]? = some (.ref o) := by
    rw [hst, List.reverse_cons, List.append_assoc, List.getElem?_append_right (by rw [List.length_reverse]; omega), List.length_reverse, hlen, Nat.sub_self]
    rfl
  refine ge_call hM hd rfl ?_ hN hl h0 he
  simp only [gm_stp, hc, hN, hr, hs9, and_false, if_false, ho, hla, hix, Option.map_some, Option.isSome_some, and_self, if_true]
  exact gm_cl_ok hN hst (by simp [hlen]) hrm
theorem ge_iinc {j : Nat} {c : Int} {d x : Int32} {ws : List Value} (hM : gm_MT[k]? = some M) (hd : decode (gm_b M) pc = .ok (.iinc j c, 3)) (hx : vs[j]? = some (.int x)) (hc : Int32.ofInt c = d) (hw : vs.set j (.int (x + d)) = ws) (hi : j < vs.length) (hp : gm_pv vs j = true) : gm_den k pc vs st n rf im lm = gm_den k (pc + 3) ws st n rf im lm := by
  subst hc
  exact ge_s1 (st0 := st) hM hd rfl (fun ws h => by simp only [gm_stp, hx, h]) hw hi hp
theorem ge_istn {j : Fin 4} {i : Nat} {x : Int32} {ws : List Value} (hM : gm_MT[k]? = some M) (hd : decode (gm_b M) pc = .ok (.istore_n j, 1)) (hj : (j : Nat) = i) (hw : vs.set i (.int x) = ws) (hi : i < vs.length) (hp : gm_pv vs i = true) : gm_den k pc vs (.int x :: st) n rf im lm = gm_den k (pc + 1) ws st n rf im lm := by
  subst hj
  exact ge_s1 hM hd rfl (fun ws h => by simp only [gm_stp, gm_i, h]) hw hi hp
theorem ge_ist {i : Nat} {x : Int32} {ws : List Value} (hM : gm_MT[k]? = some M) (hd : decode (gm_b M) pc = .ok (.istore i, 2)) (hw : vs.set i (.int x) = ws) (hi : i < vs.length) (hp : gm_pv vs i = true) : gm_den k pc vs (.int x :: st) n rf im lm = gm_den k (pc + 2) ws st n rf im lm :=
  ge_s1 hM hd rfl (fun ws h => by simp only [gm_stp, gm_i, h]) hw hi hp
theorem ge_lstn {j : Fin 4} {i : Nat} {x : Int64} {ws : List Value} (hM : gm_MT[k]? = some M) (hd : decode (gm_b M) pc = .ok (.lstore_n j, 1)) (hj : (j : Nat) = i) (hw : (vs.set i (.long x)).set (i + 1) .null = ws) (hi : i + 1 < vs.length) (hp : gm_pv vs i = true) : gm_den k pc vs (.long x :: st) n rf im lm = gm_den k (pc + 1) ws st n rf im lm := by
  subst hj
  exact ge_s2 hM hd rfl (fun ws h => by simp only [gm_stp, gm_l, h]) hw hi hp
theorem ge_lst {i : Nat} {x : Int64} {ws : List Value} (hM : gm_MT[k]? = some M) (hd : decode (gm_b M) pc = .ok (.lstore i, 2)) (hw : (vs.set i (.long x)).set (i + 1) .null = ws) (hi : i + 1 < vs.length) (hp : gm_pv vs i = true) : gm_den k pc vs (.long x :: st) n rf im lm = gm_den k (pc + 2) ws st n rf im lm :=
  ge_s2 hM hd rfl (fun ws h => by simp only [gm_stp, gm_l, h]) hw hi hp
theorem ge_copy {i a b : Nat} {t : Nat × Nat × Nat × Nat} (hM : gm_MT[k]? = some M) (hd : decode (gm_b M) pc = .ok (.invokestatic i, 3)) (hc : gm_c (gm_own M) i = some (7, t)) (ha : a < n) (hb : b < n) (hab : a ≠ b) (hla : gm_LAY[a]? = some (1, 77)) (hlb : gm_LAY[b]? = some (1, 77)) (hR : 1 ≤ gm_fr M ∧ 30 ≤ gm_lo M) (hs : (st.map fun v => v.category).sum ≤ 8) : gm_den k pc vs (.int 77 :: .int 0 :: .ref b :: .int 0 :: .ref a :: st) n rf im lm = gm_den k (pc + 3) vs st n rf (gm_cpy im a b 77) lm := gm_den_nx hM hd rfl (by simp only [gm_stp, hc, ha, hb, hab, hla, hlb, hR.1, hR.2, hs, and_self, if_true, ne_eq, not_false_eq_true])
theorem ge_dup {v : Value} (hM : gm_MT[k]? = some M) (hd : decode (gm_b M) pc = .ok (.dup, 1)) (h : v.category = 1) : gm_den k pc vs (v :: st) n rf im lm = gm_den k (pc + 1) vs (v :: v :: st) n rf im lm := gm_den_nx hM hd rfl (by simp only [gm_stp, h, if_true])
theorem ge_pop {v : Value} (hM : gm_MT[k]? = some M) (hd : decode (gm_b M) pc = .ok (.pop, 1)) (h : v.category = 1) : gm_den k pc vs (v :: st) n rf im lm = gm_den k (pc + 1) vs st n rf im lm := gm_den_nx hM hd rfl (by simp only [gm_stp, h, if_true])
theorem ge_dup2 {v w : Value} (hM : gm_MT[k]? = some M) (hd : decode (gm_b M) pc = .ok (.dup2, 1)) (h : v.category = 1) (h2 : w.category = 1) : gm_den k pc vs (v :: w :: st) n rf im lm = gm_den k (pc + 1) vs (v :: w :: v :: w :: st) n rf im lm := gm_den_nx hM hd rfl (by simp only [gm_stp, h, h2, and_self, if_true])
theorem ge_aln {j : Fin 4} {i x : Nat} (hM : gm_MT[k]? = some M) (hd : decode (gm_b M) pc = .ok (.aload_n j, 1)) (hj : (j : Nat) = i) (hx : vs[i]? = some (.ref x)) (h9 : ¬ x = 1030) : gm_den k pc vs st n rf im lm = gm_den k (pc + 1) vs (.ref x :: st) n rf im lm := by
  subst hj
  exact gm_den_nx hM hd rfl (by simp only [gm_stp, hx, h9, if_false])
end GEC
/-- conditions as propositions -/
theorem gd_eq (x y : Int32) : gm_cd .eq x y = true ↔ x = y := by simp [gm_cd]
theorem gd_ne (x y : Int32) : gm_cd .ne x y = true ↔ ¬ x = y := by simp [gm_cd]
theorem gd_lt (x y : Int32) : gm_cd .lt x y = true ↔ x < y := by simp [gm_cd]
theorem gd_ge (x y : Int32) : gm_cd .ge x y = true ↔ y ≤ x := by simp [gm_cd]
theorem gd_gt (x y : Int32) : gm_cd .gt x y = true ↔ y < x := by simp [gm_cd]
theorem gd_le (x y : Int32) : gm_cd .le x y = true ↔ x ≤ y := by simp [gm_cd]
section GED
variable {k pc : Nat} {vs st : List Value} {n : Nat} {rf : gm_R} {im : gm_I} {lm : gm_L} {M : gm_M}
theorem ge_swc {d lo hi : Int} {offs : Array Int} {len : Nat} {x : Int32} {t : Nat} {off : Int} (hM : gm_MT[k]? = some M) (hd : decode (gm_b M) pc = .ok (.tableswitch d lo hi offs, len)) (h1 : ¬ (x.toInt < lo ∨ hi < x.toInt)) (h2 : offs[(x.toInt - lo).toNat]? = some off) (h3 : gm_j pc off = some t) : gm_den k pc vs (.int x :: st) n rf im lm = gm_den k t vs st n rf im lm := ge_tsw hM hd (fun h => absurd h h1) (fun _ => ⟨off, h2, h3⟩)
theorem ge_swd {d lo hi : Int} {offs : Array Int} {len : Nat} {x : Int32} {t : Nat} (hM : gm_MT[k]? = some M) (hd : decode (gm_b M) pc = .ok (.tableswitch d lo hi offs, len)) (h1 : x.toInt < lo ∨ hi < x.toInt) (h3 : gm_j pc d = some t) : gm_den k pc vs (.int x :: st) n rf im lm = gm_den k t vs st n rf im lm := ge_tsw hM hd (fun _ => h3) (fun h => absurd h1 h)
theorem ge_aaldv {a z c : Nat} {i : Int32} (hM : gm_MT[k]? = some M) (hd : decode (gm_b M) pc = .ok (.aaload, 1)) (ha : a < n) (hz : gm_LAY[a]? = some (5, z)) (hq : ∀ j, j < z → rf a j = some (c + j)) (h9 : c + z ≤ 1000) : gm_den k pc vs (.int i :: .ref a :: st) n rf im lm = if gm_in i z = true then gm_den k (pc + 1) vs (.ref (c + i.toNatClampNeg) :: st) n rf im lm else none := by
  by_cases h : gm_in i z = true
  · have hl := gm_in_lt h
    rw [if_pos h]
    exact ge_aald hM hd ha hz h (hq _ hl) (by omega)
  · rw [if_neg h]; exact ge_none hM hd rfl (by simp only [gm_stp, hz, ha, h, if_true]; rfl)
end GED
