/-! one instruction of the pure machine is one of the true one: written by wip/whole/gen_step.py -/
def gm_sz (e : Nat × Nat) : Nat := if e.1 = 0 then (gm_FY.getD e.2 []).length else e.2
def gm_SL (n : Nat) : Nat := ((gm_LAY.take n).map gm_sz).sum
theorem gm_SL_succ {n : Nat} {e : Nat × Nat} (h : gm_LAY[n]? = some e) : gm_SL (n + 1) = gm_SL n + gm_sz e := by
  unfold gm_SL
  rw [List.take_add_one, h, List.map_append, List.sum_append]
  simp
theorem gm_SL_mono {a b : Nat} (h : a ≤ b) : gm_SL a ≤ gm_SL b := by
  induction h with
  | refl => exact Nat.le_refl _
  | @step b _ ih =>
    refine Nat.le_trans ih ?_
    cases hb : gm_LAY[b]? with
    | none =>
      have hl : gm_LAY.length ≤ b := List.getElem?_eq_none_iff.mp hb
      unfold gm_SL
      rw [List.take_of_length_le hl, List.take_of_length_le (Nat.le_succ_of_le hl)]
      exact Nat.le_refl _
    | some e => rw [gm_SL_succ hb]; exact Nat.le_add_right _ _
theorem gm_SL_rows {n z w : Nat} : (∀ j, j < w → gm_LAY[n + j]? = some (1, z)) → gm_SL (n + w) = gm_SL n + w * z := by
  induction w with
  | zero => intro _; simp
  | succ w ih =>
    intro h
    rw [← Nat.add_assoc, gm_SL_succ (h w (Nat.lt_succ_self w)), ih (fun j hj => h j (Nat.lt_succ_of_lt hj)), Nat.succ_mul]
    show _ + z = _
    omega
set_option maxRecDepth 100000 in
theorem gm_MS_ok : (gm_MT.all fun M => decide (gm_nc M = 0) || decide (gm_ns M = gm_SL (gm_s0 M + gm_nc M) - gm_SL (gm_s0 M))) = true := by decide +kernel
set_option maxRecDepth 100000 in
theorem gm_LS_ok : (gm_LAY.all fun e => decide (e.2 ≤ 10000)) = true := by decide +kernel
/-- what a method stands on while it runs -/
def gm_Ks (g : gm_G) (M : gm_M) (n0 : Nat) (p : Program) (R : Room) (s : State) (m : MethodId) (args : Array Value) (meth : Method) (c : Code) : Prop :=
  p.tables.exec = Jvm.exec ∧ c.code = gm_b M ∧ c.maxLocals = gm_ml M ∧ s.vm.findClass (gm_y M).cls = some m.cls ∧ gm_On[gm_own M]? = some (gm_y M).cls ∧ (∀ w ∈ gm_T, w.before args s = true) ∧ gm_Cx g s ∧ (s.heap.size = gm_bs g + n0 ∧ ∀ q, q < gm_bs g → s.heap[q]? = (gm_H0 g)[q]?) ∧ (gm_nc M ≠ 0 → n0 = gm_s0 M) ∧ ((gm_y M).name = "<init>" → meth.name = "<init>") ∧ (gm_fr M ≤ R.frames ∧ gm_lo M ≤ R.locals ∧ gm_nc M ≤ R.cells ∧ gm_ns M ≤ R.slots) ∧ M ∈ gm_MT
theorem gm_s1_len {vs ws : List Value} {i : Nat} {v : Value} (hs : gm_s1 vs i v = some ws) : ws.length = vs.length := by
  unfold gm_s1 at hs
  split at hs
  · cases hs; exact List.length_set ..
  · cases hs
theorem gm_s2_len {vs ws : List Value} {i : Nat} {v : Value} (hs : gm_s2 vs i v = some ws) : ws.length = vs.length := by
  unfold gm_s2 at hs
  split at hs
  · cases hs; rw [List.length_set, List.length_set]
  · cases hs
theorem gm_j_spec {pc t : Nat} {off : Int} (h : gm_j pc off = some t) : (pc : Int) + off = (t : Int) := by
  unfold gm_j at h
  split at h
  · rename_i h0
    cases h
    omega
  · cases h
theorem gm_find {α : Type} {l : List α} {p : α → Bool} {q : α → Bool} (hq : l.all q = true) {x : α} (h : l.find? p = some x) : q x = true ∧ p x = true := ⟨List.all_eq_true.mp hq x (List.mem_of_find?_eq_some h), List.find?_some h⟩
theorem gm_f_spec {o i : Nat} {q : Nat × Nat × Nat × Nat} (h : gm_f o i = some q) : ∃ (C : String) (T : u_T) (N : Nat) (on : String), vwCl[q.2.1]? = some (C, T, N) ∧ gm_On[o]? = some on ∧ q.2.2.1 < N ∧ (T q.2.2.1).1 = C ∧ gm_fy q.2.1 q.2.2.1 = gm_fyc (T q.2.2.1).2.2.1 ∧ (gm_FY.getD q.2.1 []).length = N ∧
    ((q.1 = 0 ∧ Jvm.Cond.fieldLink on i C (T q.2.2.1).2.1 (T q.2.2.1).2.2.1 ∈ lw_tbl) ∨ (q.1 ≠ 0 ∧ Jvm.Cond.fieldLinkNest on i C (T q.2.2.1).2.1 (T q.2.2.1).2.2.1 "WorseSenate" ∈ lw_tbl)) := by
  unfold gm_f at h
  cases hf : gm_FT.find? (fun e => e.1 == o && e.2.1 == i) with
  | none => rw [hf] at h; cases h
  | some x =>
    rw [hf] at h
    cases h
    obtain ⟨h1, h2⟩ := gm_find gm_FT_ok hf
    simp only [Bool.and_eq_true, beq_iff_eq] at h2
    obtain ⟨rfl, rfl⟩ := h2
    unfold gm_FTb at h1
    cases hv : vwCl[x.2.2.2.1]? with
    | none => simp [hv] at h1
    | some q =>
      cases ho : gm_On[x.1]? with
      | none => simp [hv, ho] at h1
      | some on =>
        obtain ⟨C, T, N⟩ := q
        simp only [hv, ho, Bool.and_eq_true, decide_eq_true_eq] at h1
        obtain ⟨⟨⟨⟨a1, a2⟩, a3⟩, a4⟩, a5⟩ := h1
        refine ⟨C, T, N, on, rfl, rfl, a1, a2, a3, a4, ?_⟩
        split at a5
        · rename_i h0
          exact Or.inl ⟨h0, gm_wd_in (by simpa using a5)⟩
        · rename_i h0
          exact Or.inr ⟨h0, gm_wd_in (by simpa using a5)⟩
section GMS
variable {p : Program} {l : Launch} {e : Env} {R : Room} {s : State} {m : MethodId} {args : Array Value} {below : List Frame} {meth : Method} {c : Code} {H : Heap} {locs : List Loc} {cells slots : Nat} {Q : State → Prop}
variable {pc : Nat} {ls : Array Slot} {g : gm_G} {n n0 : Nat} {rf : gm_R} {im : gm_I} {lm : gm_L} {M : gm_M} {vs st : List Value}
theorem gm_link {on C a b : String} {i : Nat} (hts : ∀ w ∈ gm_T, w.before args s = true) (hC : gm_Cx g s) (h : Jvm.Cond.fieldLink on i C a b ∈ lw_tbl ∨ Jvm.Cond.fieldLinkNest on i C a b "WorseSenate" ∈ lw_tbl) : (Jvm.Cond.fieldLink on i C a b).before args s = true ∨ (Jvm.Cond.fieldLinkNest on i C a b "WorseSenate").before args s = true := by
  rcases h with h | h
  · exact Or.inl (hts _ (gm_T_in h rfl))
  · exact Or.inr (va_Nw.use rfl (hC.2.2.2.2.2.2.1 _ h rfl))
/-- nothing below the first address was written since the method began -/
theorem gm_vS (hs : s.heap.size = gm_bs g + n0 ∧ ∀ q, q < gm_bs g → s.heap[q]? = (gm_H0 g)[q]?) (hP : gm_P g n rf im lm H) (hn : n0 ≤ n) (hlo : ∀ q ∈ locs, gm_A g q.base) : va_S (gm_A g) s.heap H locs := by
  refine ⟨by rw [hs.1, hP.2.1]; omega, fun q _ hq => ?_, hlo⟩
  have hq : q < gm_bs g := Nat.not_le.mp hq
  rw [hP.2.2.2.1 q hq, hs.2 q hq]
theorem gm_old (hs : s.heap.size = gm_bs g + n0 ∧ ∀ q, q < gm_bs g → s.heap[q]? = (gm_H0 g)[q]?) (h0 : (gm_H0 g).size = gm_bs g) : ∀ a : Nat, a < (gm_H0 g).size → ¬ gm_A g a → s.heap[a]? = (gm_H0 g)[a]? := fun a ha _ => hs.2 a (by omega)

variable {len pc' n' : Nat} {vs' st' : List Value} {rf' : gm_R} {im' : gm_I} {lm' : gm_L}
theorem gs_iconst {k0 : Int} (hK : gm_Ks g M n0 p R s m args meth c) (hd : decode (gm_b M) pc = .ok (.iconst k0, len)) (hln : gm_lnb (.iconst k0) len = true) (hs : gm_stp M (.iconst k0) pc vs st n rf im lm = some (.inl (pc', vs', st', n', rf', im', lm'))) (hP : gm_P g n rf im lm H) (hv : gm_lv g ls vs) (hvl : vs.length = gm_ml M) (hn : n0 ≤ n) (hnc : gm_nc M = 0 → n = n0) (hlo : ∀ q ∈ locs, gm_A g q.base)
    (kk : ∀ (H1 : Heap) (ls1 : Array Slot) (locs1 : List Loc), gm_P g n' rf' im' lm' H1 → gm_lv g ls1 vs' → vs'.length = gm_ml M → n0 ≤ n' → (gm_nc M = 0 → n' = n0) → (∀ q ∈ locs1, gm_A g q.base) → W p l e R s m args below meth c H1 locs1 (n' - n0) (gm_SL n' - gm_SL n0) Q (F0 m pc' ls1 (st'.map (gm_tr g)))) : W p l e R s m args below meth c H locs (n - n0) (gm_SL n - gm_SL n0) Q (F0 m pc ls (st.map (gm_tr g))) := by
  obtain ⟨hx, hb, hml, hown, hon, hts, hC, hs0, hi0, hin, hR, hmt⟩ := hK
  simp only [gm_lnb, decide_eq_true_eq] at hln
  subst hln
  simp only [gm_stp] at hs
  unfold gm_nx at hs
  cases hs
  exact lv_iconst hx hb hd rfl (kk H ls locs hP hv hvl hn hnc hlo)

theorem gs_bipush {k0 : Int} (hK : gm_Ks g M n0 p R s m args meth c) (hd : decode (gm_b M) pc = .ok (.bipush k0, len)) (hln : gm_lnb (.bipush k0) len = true) (hs : gm_stp M (.bipush k0) pc vs st n rf im lm = some (.inl (pc', vs', st', n', rf', im', lm'))) (hP : gm_P g n rf im lm H) (hv : gm_lv g ls vs) (hvl : vs.length = gm_ml M) (hn : n0 ≤ n) (hnc : gm_nc M = 0 → n = n0) (hlo : ∀ q ∈ locs, gm_A g q.base)
    (kk : ∀ (H1 : Heap) (ls1 : Array Slot) (locs1 : List Loc), gm_P g n' rf' im' lm' H1 → gm_lv g ls1 vs' → vs'.length = gm_ml M → n0 ≤ n' → (gm_nc M = 0 → n' = n0) → (∀ q ∈ locs1, gm_A g q.base) → W p l e R s m args below meth c H1 locs1 (n' - n0) (gm_SL n' - gm_SL n0) Q (F0 m pc' ls1 (st'.map (gm_tr g)))) : W p l e R s m args below meth c H locs (n - n0) (gm_SL n - gm_SL n0) Q (F0 m pc ls (st.map (gm_tr g))) := by
  obtain ⟨hx, hb, hml, hown, hon, hts, hC, hs0, hi0, hin, hR, hmt⟩ := hK
  simp only [gm_lnb, decide_eq_true_eq] at hln
  subst hln
  simp only [gm_stp] at hs
  unfold gm_nx at hs
  cases hs
  exact lv_bipush hx hb hd rfl (kk H ls locs hP hv hvl hn hnc hlo)

theorem gs_sipush {k0 : Int} (hK : gm_Ks g M n0 p R s m args meth c) (hd : decode (gm_b M) pc = .ok (.sipush k0, len)) (hln : gm_lnb (.sipush k0) len = true) (hs : gm_stp M (.sipush k0) pc vs st n rf im lm = some (.inl (pc', vs', st', n', rf', im', lm'))) (hP : gm_P g n rf im lm H) (hv : gm_lv g ls vs) (hvl : vs.length = gm_ml M) (hn : n0 ≤ n) (hnc : gm_nc M = 0 → n = n0) (hlo : ∀ q ∈ locs, gm_A g q.base)
    (kk : ∀ (H1 : Heap) (ls1 : Array Slot) (locs1 : List Loc), gm_P g n' rf' im' lm' H1 → gm_lv g ls1 vs' → vs'.length = gm_ml M → n0 ≤ n' → (gm_nc M = 0 → n' = n0) → (∀ q ∈ locs1, gm_A g q.base) → W p l e R s m args below meth c H1 locs1 (n' - n0) (gm_SL n' - gm_SL n0) Q (F0 m pc' ls1 (st'.map (gm_tr g)))) : W p l e R s m args below meth c H locs (n - n0) (gm_SL n - gm_SL n0) Q (F0 m pc ls (st.map (gm_tr g))) := by
  obtain ⟨hx, hb, hml, hown, hon, hts, hC, hs0, hi0, hin, hR, hmt⟩ := hK
  simp only [gm_lnb, decide_eq_true_eq] at hln
  subst hln
  simp only [gm_stp] at hs
  unfold gm_nx at hs
  cases hs
  exact lv_sipush hx hb hd rfl (kk H ls locs hP hv hvl hn hnc hlo)

theorem gs_lconst {k0 : Fin 2} (hK : gm_Ks g M n0 p R s m args meth c) (hd : decode (gm_b M) pc = .ok (.lconst k0, len)) (hln : gm_lnb (.lconst k0) len = true) (hs : gm_stp M (.lconst k0) pc vs st n rf im lm = some (.inl (pc', vs', st', n', rf', im', lm'))) (hP : gm_P g n rf im lm H) (hv : gm_lv g ls vs) (hvl : vs.length = gm_ml M) (hn : n0 ≤ n) (hnc : gm_nc M = 0 → n = n0) (hlo : ∀ q ∈ locs, gm_A g q.base)
    (kk : ∀ (H1 : Heap) (ls1 : Array Slot) (locs1 : List Loc), gm_P g n' rf' im' lm' H1 → gm_lv g ls1 vs' → vs'.length = gm_ml M → n0 ≤ n' → (gm_nc M = 0 → n' = n0) → (∀ q ∈ locs1, gm_A g q.base) → W p l e R s m args below meth c H1 locs1 (n' - n0) (gm_SL n' - gm_SL n0) Q (F0 m pc' ls1 (st'.map (gm_tr g)))) : W p l e R s m args below meth c H locs (n - n0) (gm_SL n - gm_SL n0) Q (F0 m pc ls (st.map (gm_tr g))) := by
  obtain ⟨hx, hb, hml, hown, hon, hts, hC, hs0, hi0, hin, hR, hmt⟩ := hK
  simp only [gm_lnb, decide_eq_true_eq] at hln
  subst hln
  simp only [gm_stp] at hs
  unfold gm_nx at hs
  cases hs
  exact lv_lconst hx hb hd rfl (kk H ls locs hP hv hvl hn hnc hlo)

theorem gs_iadd (hK : gm_Ks g M n0 p R s m args meth c) (hd : decode (gm_b M) pc = .ok (.iadd, len)) (hln : gm_lnb (.iadd) len = true) (hs : gm_stp M (.iadd) pc vs st n rf im lm = some (.inl (pc', vs', st', n', rf', im', lm'))) (hP : gm_P g n rf im lm H) (hv : gm_lv g ls vs) (hvl : vs.length = gm_ml M) (hn : n0 ≤ n) (hnc : gm_nc M = 0 → n = n0) (hlo : ∀ q ∈ locs, gm_A g q.base)
    (kk : ∀ (H1 : Heap) (ls1 : Array Slot) (locs1 : List Loc), gm_P g n' rf' im' lm' H1 → gm_lv g ls1 vs' → vs'.length = gm_ml M → n0 ≤ n' → (gm_nc M = 0 → n' = n0) → (∀ q ∈ locs1, gm_A g q.base) → W p l e R s m args below meth c H1 locs1 (n' - n0) (gm_SL n' - gm_SL n0) Q (F0 m pc' ls1 (st'.map (gm_tr g)))) : W p l e R s m args below meth c H locs (n - n0) (gm_SL n - gm_SL n0) Q (F0 m pc ls (st.map (gm_tr g))) := by
  obtain ⟨hx, hb, hml, hown, hon, hts, hC, hs0, hi0, hin, hR, hmt⟩ := hK
  simp only [gm_lnb, decide_eq_true_eq] at hln
  subst hln
  simp only [gm_stp, gm_ii] at hs
  split at hs
  · unfold gm_nx at hs
    cases hs
    exact lv_iadd hx hb hd (kk H ls locs hP hv hvl hn hnc hlo)
  · cases hs

theorem gs_isub (hK : gm_Ks g M n0 p R s m args meth c) (hd : decode (gm_b M) pc = .ok (.isub, len)) (hln : gm_lnb (.isub) len = true) (hs : gm_stp M (.isub) pc vs st n rf im lm = some (.inl (pc', vs', st', n', rf', im', lm'))) (hP : gm_P g n rf im lm H) (hv : gm_lv g ls vs) (hvl : vs.length = gm_ml M) (hn : n0 ≤ n) (hnc : gm_nc M = 0 → n = n0) (hlo : ∀ q ∈ locs, gm_A g q.base)
    (kk : ∀ (H1 : Heap) (ls1 : Array Slot) (locs1 : List Loc), gm_P g n' rf' im' lm' H1 → gm_lv g ls1 vs' → vs'.length = gm_ml M → n0 ≤ n' → (gm_nc M = 0 → n' = n0) → (∀ q ∈ locs1, gm_A g q.base) → W p l e R s m args below meth c H1 locs1 (n' - n0) (gm_SL n' - gm_SL n0) Q (F0 m pc' ls1 (st'.map (gm_tr g)))) : W p l e R s m args below meth c H locs (n - n0) (gm_SL n - gm_SL n0) Q (F0 m pc ls (st.map (gm_tr g))) := by
  obtain ⟨hx, hb, hml, hown, hon, hts, hC, hs0, hi0, hin, hR, hmt⟩ := hK
  simp only [gm_lnb, decide_eq_true_eq] at hln
  subst hln
  simp only [gm_stp, gm_ii] at hs
  split at hs
  · unfold gm_nx at hs
    cases hs
    exact lv_isub hx hb hd (kk H ls locs hP hv hvl hn hnc hlo)
  · cases hs

theorem gs_imul (hK : gm_Ks g M n0 p R s m args meth c) (hd : decode (gm_b M) pc = .ok (.imul, len)) (hln : gm_lnb (.imul) len = true) (hs : gm_stp M (.imul) pc vs st n rf im lm = some (.inl (pc', vs', st', n', rf', im', lm'))) (hP : gm_P g n rf im lm H) (hv : gm_lv g ls vs) (hvl : vs.length = gm_ml M) (hn : n0 ≤ n) (hnc : gm_nc M = 0 → n = n0) (hlo : ∀ q ∈ locs, gm_A g q.base)
    (kk : ∀ (H1 : Heap) (ls1 : Array Slot) (locs1 : List Loc), gm_P g n' rf' im' lm' H1 → gm_lv g ls1 vs' → vs'.length = gm_ml M → n0 ≤ n' → (gm_nc M = 0 → n' = n0) → (∀ q ∈ locs1, gm_A g q.base) → W p l e R s m args below meth c H1 locs1 (n' - n0) (gm_SL n' - gm_SL n0) Q (F0 m pc' ls1 (st'.map (gm_tr g)))) : W p l e R s m args below meth c H locs (n - n0) (gm_SL n - gm_SL n0) Q (F0 m pc ls (st.map (gm_tr g))) := by
  obtain ⟨hx, hb, hml, hown, hon, hts, hC, hs0, hi0, hin, hR, hmt⟩ := hK
  simp only [gm_lnb, decide_eq_true_eq] at hln
  subst hln
  simp only [gm_stp, gm_ii] at hs
  split at hs
  · unfold gm_nx at hs
    cases hs
    exact lv_imul hx hb hd (kk H ls locs hP hv hvl hn hnc hlo)
  · cases hs

theorem gs_iand (hK : gm_Ks g M n0 p R s m args meth c) (hd : decode (gm_b M) pc = .ok (.iand, len)) (hln : gm_lnb (.iand) len = true) (hs : gm_stp M (.iand) pc vs st n rf im lm = some (.inl (pc', vs', st', n', rf', im', lm'))) (hP : gm_P g n rf im lm H) (hv : gm_lv g ls vs) (hvl : vs.length = gm_ml M) (hn : n0 ≤ n) (hnc : gm_nc M = 0 → n = n0) (hlo : ∀ q ∈ locs, gm_A g q.base)
    (kk : ∀ (H1 : Heap) (ls1 : Array Slot) (locs1 : List Loc), gm_P g n' rf' im' lm' H1 → gm_lv g ls1 vs' → vs'.length = gm_ml M → n0 ≤ n' → (gm_nc M = 0 → n' = n0) → (∀ q ∈ locs1, gm_A g q.base) → W p l e R s m args below meth c H1 locs1 (n' - n0) (gm_SL n' - gm_SL n0) Q (F0 m pc' ls1 (st'.map (gm_tr g)))) : W p l e R s m args below meth c H locs (n - n0) (gm_SL n - gm_SL n0) Q (F0 m pc ls (st.map (gm_tr g))) := by
  obtain ⟨hx, hb, hml, hown, hon, hts, hC, hs0, hi0, hin, hR, hmt⟩ := hK
  simp only [gm_lnb, decide_eq_true_eq] at hln
  subst hln
  simp only [gm_stp, gm_ii] at hs
  split at hs
  · unfold gm_nx at hs
    cases hs
    exact lv_iand hx hb hd (kk H ls locs hP hv hvl hn hnc hlo)
  · cases hs

theorem gs_ior (hK : gm_Ks g M n0 p R s m args meth c) (hd : decode (gm_b M) pc = .ok (.ior, len)) (hln : gm_lnb (.ior) len = true) (hs : gm_stp M (.ior) pc vs st n rf im lm = some (.inl (pc', vs', st', n', rf', im', lm'))) (hP : gm_P g n rf im lm H) (hv : gm_lv g ls vs) (hvl : vs.length = gm_ml M) (hn : n0 ≤ n) (hnc : gm_nc M = 0 → n = n0) (hlo : ∀ q ∈ locs, gm_A g q.base)
    (kk : ∀ (H1 : Heap) (ls1 : Array Slot) (locs1 : List Loc), gm_P g n' rf' im' lm' H1 → gm_lv g ls1 vs' → vs'.length = gm_ml M → n0 ≤ n' → (gm_nc M = 0 → n' = n0) → (∀ q ∈ locs1, gm_A g q.base) → W p l e R s m args below meth c H1 locs1 (n' - n0) (gm_SL n' - gm_SL n0) Q (F0 m pc' ls1 (st'.map (gm_tr g)))) : W p l e R s m args below meth c H locs (n - n0) (gm_SL n - gm_SL n0) Q (F0 m pc ls (st.map (gm_tr g))) := by
  obtain ⟨hx, hb, hml, hown, hon, hts, hC, hs0, hi0, hin, hR, hmt⟩ := hK
  simp only [gm_lnb, decide_eq_true_eq] at hln
  subst hln
  simp only [gm_stp, gm_ii] at hs
  split at hs
  · unfold gm_nx at hs
    cases hs
    exact lv_ior hx hb hd (kk H ls locs hP hv hvl hn hnc hlo)
  · cases hs

theorem gs_ixor (hK : gm_Ks g M n0 p R s m args meth c) (hd : decode (gm_b M) pc = .ok (.ixor, len)) (hln : gm_lnb (.ixor) len = true) (hs : gm_stp M (.ixor) pc vs st n rf im lm = some (.inl (pc', vs', st', n', rf', im', lm'))) (hP : gm_P g n rf im lm H) (hv : gm_lv g ls vs) (hvl : vs.length = gm_ml M) (hn : n0 ≤ n) (hnc : gm_nc M = 0 → n = n0) (hlo : ∀ q ∈ locs, gm_A g q.base)
    (kk : ∀ (H1 : Heap) (ls1 : Array Slot) (locs1 : List Loc), gm_P g n' rf' im' lm' H1 → gm_lv g ls1 vs' → vs'.length = gm_ml M → n0 ≤ n' → (gm_nc M = 0 → n' = n0) → (∀ q ∈ locs1, gm_A g q.base) → W p l e R s m args below meth c H1 locs1 (n' - n0) (gm_SL n' - gm_SL n0) Q (F0 m pc' ls1 (st'.map (gm_tr g)))) : W p l e R s m args below meth c H locs (n - n0) (gm_SL n - gm_SL n0) Q (F0 m pc ls (st.map (gm_tr g))) := by
  obtain ⟨hx, hb, hml, hown, hon, hts, hC, hs0, hi0, hin, hR, hmt⟩ := hK
  simp only [gm_lnb, decide_eq_true_eq] at hln
  subst hln
  simp only [gm_stp, gm_ii] at hs
  split at hs
  · unfold gm_nx at hs
    cases hs
    exact lv_ixor hx hb hd (kk H ls locs hP hv hvl hn hnc hlo)
  · cases hs

theorem gs_ishl (hK : gm_Ks g M n0 p R s m args meth c) (hd : decode (gm_b M) pc = .ok (.ishl, len)) (hln : gm_lnb (.ishl) len = true) (hs : gm_stp M (.ishl) pc vs st n rf im lm = some (.inl (pc', vs', st', n', rf', im', lm'))) (hP : gm_P g n rf im lm H) (hv : gm_lv g ls vs) (hvl : vs.length = gm_ml M) (hn : n0 ≤ n) (hnc : gm_nc M = 0 → n = n0) (hlo : ∀ q ∈ locs, gm_A g q.base)
    (kk : ∀ (H1 : Heap) (ls1 : Array Slot) (locs1 : List Loc), gm_P g n' rf' im' lm' H1 → gm_lv g ls1 vs' → vs'.length = gm_ml M → n0 ≤ n' → (gm_nc M = 0 → n' = n0) → (∀ q ∈ locs1, gm_A g q.base) → W p l e R s m args below meth c H1 locs1 (n' - n0) (gm_SL n' - gm_SL n0) Q (F0 m pc' ls1 (st'.map (gm_tr g)))) : W p l e R s m args below meth c H locs (n - n0) (gm_SL n - gm_SL n0) Q (F0 m pc ls (st.map (gm_tr g))) := by
  obtain ⟨hx, hb, hml, hown, hon, hts, hC, hs0, hi0, hin, hR, hmt⟩ := hK
  simp only [gm_lnb, decide_eq_true_eq] at hln
  subst hln
  simp only [gm_stp, gm_ii] at hs
  split at hs
  · unfold gm_nx at hs
    cases hs
    exact lv_ishl hx hb hd (kk H ls locs hP hv hvl hn hnc hlo)
  · cases hs

theorem gs_ishr (hK : gm_Ks g M n0 p R s m args meth c) (hd : decode (gm_b M) pc = .ok (.ishr, len)) (hln : gm_lnb (.ishr) len = true) (hs : gm_stp M (.ishr) pc vs st n rf im lm = some (.inl (pc', vs', st', n', rf', im', lm'))) (hP : gm_P g n rf im lm H) (hv : gm_lv g ls vs) (hvl : vs.length = gm_ml M) (hn : n0 ≤ n) (hnc : gm_nc M = 0 → n = n0) (hlo : ∀ q ∈ locs, gm_A g q.base)
    (kk : ∀ (H1 : Heap) (ls1 : Array Slot) (locs1 : List Loc), gm_P g n' rf' im' lm' H1 → gm_lv g ls1 vs' → vs'.length = gm_ml M → n0 ≤ n' → (gm_nc M = 0 → n' = n0) → (∀ q ∈ locs1, gm_A g q.base) → W p l e R s m args below meth c H1 locs1 (n' - n0) (gm_SL n' - gm_SL n0) Q (F0 m pc' ls1 (st'.map (gm_tr g)))) : W p l e R s m args below meth c H locs (n - n0) (gm_SL n - gm_SL n0) Q (F0 m pc ls (st.map (gm_tr g))) := by
  obtain ⟨hx, hb, hml, hown, hon, hts, hC, hs0, hi0, hin, hR, hmt⟩ := hK
  simp only [gm_lnb, decide_eq_true_eq] at hln
  subst hln
  simp only [gm_stp, gm_ii] at hs
  split at hs
  · unfold gm_nx at hs
    cases hs
    exact lv_ishr hx hb hd (kk H ls locs hP hv hvl hn hnc hlo)
  · cases hs

theorem gs_iushr (hK : gm_Ks g M n0 p R s m args meth c) (hd : decode (gm_b M) pc = .ok (.iushr, len)) (hln : gm_lnb (.iushr) len = true) (hs : gm_stp M (.iushr) pc vs st n rf im lm = some (.inl (pc', vs', st', n', rf', im', lm'))) (hP : gm_P g n rf im lm H) (hv : gm_lv g ls vs) (hvl : vs.length = gm_ml M) (hn : n0 ≤ n) (hnc : gm_nc M = 0 → n = n0) (hlo : ∀ q ∈ locs, gm_A g q.base)
    (kk : ∀ (H1 : Heap) (ls1 : Array Slot) (locs1 : List Loc), gm_P g n' rf' im' lm' H1 → gm_lv g ls1 vs' → vs'.length = gm_ml M → n0 ≤ n' → (gm_nc M = 0 → n' = n0) → (∀ q ∈ locs1, gm_A g q.base) → W p l e R s m args below meth c H1 locs1 (n' - n0) (gm_SL n' - gm_SL n0) Q (F0 m pc' ls1 (st'.map (gm_tr g)))) : W p l e R s m args below meth c H locs (n - n0) (gm_SL n - gm_SL n0) Q (F0 m pc ls (st.map (gm_tr g))) := by
  obtain ⟨hx, hb, hml, hown, hon, hts, hC, hs0, hi0, hin, hR, hmt⟩ := hK
  simp only [gm_lnb, decide_eq_true_eq] at hln
  subst hln
  simp only [gm_stp, gm_ii] at hs
  split at hs
  · unfold gm_nx at hs
    cases hs
    exact lv_iushr hx hb hd rfl (kk H ls locs hP hv hvl hn hnc hlo)
  · cases hs

theorem gs_ladd (hK : gm_Ks g M n0 p R s m args meth c) (hd : decode (gm_b M) pc = .ok (.ladd, len)) (hln : gm_lnb (.ladd) len = true) (hs : gm_stp M (.ladd) pc vs st n rf im lm = some (.inl (pc', vs', st', n', rf', im', lm'))) (hP : gm_P g n rf im lm H) (hv : gm_lv g ls vs) (hvl : vs.length = gm_ml M) (hn : n0 ≤ n) (hnc : gm_nc M = 0 → n = n0) (hlo : ∀ q ∈ locs, gm_A g q.base)
    (kk : ∀ (H1 : Heap) (ls1 : Array Slot) (locs1 : List Loc), gm_P g n' rf' im' lm' H1 → gm_lv g ls1 vs' → vs'.length = gm_ml M → n0 ≤ n' → (gm_nc M = 0 → n' = n0) → (∀ q ∈ locs1, gm_A g q.base) → W p l e R s m args below meth c H1 locs1 (n' - n0) (gm_SL n' - gm_SL n0) Q (F0 m pc' ls1 (st'.map (gm_tr g)))) : W p l e R s m args below meth c H locs (n - n0) (gm_SL n - gm_SL n0) Q (F0 m pc ls (st.map (gm_tr g))) := by
  obtain ⟨hx, hb, hml, hown, hon, hts, hC, hs0, hi0, hin, hR, hmt⟩ := hK
  simp only [gm_lnb, decide_eq_true_eq] at hln
  subst hln
  simp only [gm_stp, gm_ll] at hs
  split at hs
  · unfold gm_nx at hs
    cases hs
    exact lv_ladd hx hb hd (kk H ls locs hP hv hvl hn hnc hlo)
  · cases hs

theorem gs_lsub (hK : gm_Ks g M n0 p R s m args meth c) (hd : decode (gm_b M) pc = .ok (.lsub, len)) (hln : gm_lnb (.lsub) len = true) (hs : gm_stp M (.lsub) pc vs st n rf im lm = some (.inl (pc', vs', st', n', rf', im', lm'))) (hP : gm_P g n rf im lm H) (hv : gm_lv g ls vs) (hvl : vs.length = gm_ml M) (hn : n0 ≤ n) (hnc : gm_nc M = 0 → n = n0) (hlo : ∀ q ∈ locs, gm_A g q.base)
    (kk : ∀ (H1 : Heap) (ls1 : Array Slot) (locs1 : List Loc), gm_P g n' rf' im' lm' H1 → gm_lv g ls1 vs' → vs'.length = gm_ml M → n0 ≤ n' → (gm_nc M = 0 → n' = n0) → (∀ q ∈ locs1, gm_A g q.base) → W p l e R s m args below meth c H1 locs1 (n' - n0) (gm_SL n' - gm_SL n0) Q (F0 m pc' ls1 (st'.map (gm_tr g)))) : W p l e R s m args below meth c H locs (n - n0) (gm_SL n - gm_SL n0) Q (F0 m pc ls (st.map (gm_tr g))) := by
  obtain ⟨hx, hb, hml, hown, hon, hts, hC, hs0, hi0, hin, hR, hmt⟩ := hK
  simp only [gm_lnb, decide_eq_true_eq] at hln
  subst hln
  simp only [gm_stp, gm_ll] at hs
  split at hs
  · unfold gm_nx at hs
    cases hs
    exact lv_lsub hx hb hd (kk H ls locs hP hv hvl hn hnc hlo)
  · cases hs

theorem gs_lmul (hK : gm_Ks g M n0 p R s m args meth c) (hd : decode (gm_b M) pc = .ok (.lmul, len)) (hln : gm_lnb (.lmul) len = true) (hs : gm_stp M (.lmul) pc vs st n rf im lm = some (.inl (pc', vs', st', n', rf', im', lm'))) (hP : gm_P g n rf im lm H) (hv : gm_lv g ls vs) (hvl : vs.length = gm_ml M) (hn : n0 ≤ n) (hnc : gm_nc M = 0 → n = n0) (hlo : ∀ q ∈ locs, gm_A g q.base)
    (kk : ∀ (H1 : Heap) (ls1 : Array Slot) (locs1 : List Loc), gm_P g n' rf' im' lm' H1 → gm_lv g ls1 vs' → vs'.length = gm_ml M → n0 ≤ n' → (gm_nc M = 0 → n' = n0) → (∀ q ∈ locs1, gm_A g q.base) → W p l e R s m args below meth c H1 locs1 (n' - n0) (gm_SL n' - gm_SL n0) Q (F0 m pc' ls1 (st'.map (gm_tr g)))) : W p l e R s m args below meth c H locs (n - n0) (gm_SL n - gm_SL n0) Q (F0 m pc ls (st.map (gm_tr g))) := by
  obtain ⟨hx, hb, hml, hown, hon, hts, hC, hs0, hi0, hin, hR, hmt⟩ := hK
  simp only [gm_lnb, decide_eq_true_eq] at hln
  subst hln
  simp only [gm_stp, gm_ll] at hs
  split at hs
  · unfold gm_nx at hs
    cases hs
    exact lv_lmul hx hb hd (kk H ls locs hP hv hvl hn hnc hlo)
  · cases hs

theorem gs_lcmp (hK : gm_Ks g M n0 p R s m args meth c) (hd : decode (gm_b M) pc = .ok (.lcmp, len)) (hln : gm_lnb (.lcmp) len = true) (hs : gm_stp M (.lcmp) pc vs st n rf im lm = some (.inl (pc', vs', st', n', rf', im', lm'))) (hP : gm_P g n rf im lm H) (hv : gm_lv g ls vs) (hvl : vs.length = gm_ml M) (hn : n0 ≤ n) (hnc : gm_nc M = 0 → n = n0) (hlo : ∀ q ∈ locs, gm_A g q.base)
    (kk : ∀ (H1 : Heap) (ls1 : Array Slot) (locs1 : List Loc), gm_P g n' rf' im' lm' H1 → gm_lv g ls1 vs' → vs'.length = gm_ml M → n0 ≤ n' → (gm_nc M = 0 → n' = n0) → (∀ q ∈ locs1, gm_A g q.base) → W p l e R s m args below meth c H1 locs1 (n' - n0) (gm_SL n' - gm_SL n0) Q (F0 m pc' ls1 (st'.map (gm_tr g)))) : W p l e R s m args below meth c H locs (n - n0) (gm_SL n - gm_SL n0) Q (F0 m pc ls (st.map (gm_tr g))) := by
  obtain ⟨hx, hb, hml, hown, hon, hts, hC, hs0, hi0, hin, hR, hmt⟩ := hK
  simp only [gm_lnb, decide_eq_true_eq] at hln
  subst hln
  simp only [gm_stp, gm_ll] at hs
  split at hs
  · unfold gm_nx at hs
    cases hs
    exact W.lcmp hx hb hd (kk H ls locs hP hv hvl hn hnc hlo)
  · cases hs

theorem gs_lushr (hK : gm_Ks g M n0 p R s m args meth c) (hd : decode (gm_b M) pc = .ok (.lushr, len)) (hln : gm_lnb (.lushr) len = true) (hs : gm_stp M (.lushr) pc vs st n rf im lm = some (.inl (pc', vs', st', n', rf', im', lm'))) (hP : gm_P g n rf im lm H) (hv : gm_lv g ls vs) (hvl : vs.length = gm_ml M) (hn : n0 ≤ n) (hnc : gm_nc M = 0 → n = n0) (hlo : ∀ q ∈ locs, gm_A g q.base)
    (kk : ∀ (H1 : Heap) (ls1 : Array Slot) (locs1 : List Loc), gm_P g n' rf' im' lm' H1 → gm_lv g ls1 vs' → vs'.length = gm_ml M → n0 ≤ n' → (gm_nc M = 0 → n' = n0) → (∀ q ∈ locs1, gm_A g q.base) → W p l e R s m args below meth c H1 locs1 (n' - n0) (gm_SL n' - gm_SL n0) Q (F0 m pc' ls1 (st'.map (gm_tr g)))) : W p l e R s m args below meth c H locs (n - n0) (gm_SL n - gm_SL n0) Q (F0 m pc ls (st.map (gm_tr g))) := by
  obtain ⟨hx, hb, hml, hown, hon, hts, hC, hs0, hi0, hin, hR, hmt⟩ := hK
  simp only [gm_lnb, decide_eq_true_eq] at hln
  subst hln
  simp only [gm_stp] at hs
  split at hs
  · unfold gm_nx at hs
    cases hs
    exact lv_lushr hx hb hd rfl (kk H ls locs hP hv hvl hn hnc hlo)
  · cases hs

theorem gs_lshl (hK : gm_Ks g M n0 p R s m args meth c) (hd : decode (gm_b M) pc = .ok (.lshl, len)) (hln : gm_lnb (.lshl) len = true) (hs : gm_stp M (.lshl) pc vs st n rf im lm = some (.inl (pc', vs', st', n', rf', im', lm'))) (hP : gm_P g n rf im lm H) (hv : gm_lv g ls vs) (hvl : vs.length = gm_ml M) (hn : n0 ≤ n) (hnc : gm_nc M = 0 → n = n0) (hlo : ∀ q ∈ locs, gm_A g q.base)
    (kk : ∀ (H1 : Heap) (ls1 : Array Slot) (locs1 : List Loc), gm_P g n' rf' im' lm' H1 → gm_lv g ls1 vs' → vs'.length = gm_ml M → n0 ≤ n' → (gm_nc M = 0 → n' = n0) → (∀ q ∈ locs1, gm_A g q.base) → W p l e R s m args below meth c H1 locs1 (n' - n0) (gm_SL n' - gm_SL n0) Q (F0 m pc' ls1 (st'.map (gm_tr g)))) : W p l e R s m args below meth c H locs (n - n0) (gm_SL n - gm_SL n0) Q (F0 m pc ls (st.map (gm_tr g))) := by
  obtain ⟨hx, hb, hml, hown, hon, hts, hC, hs0, hi0, hin, hR, hmt⟩ := hK
  simp only [gm_lnb, decide_eq_true_eq] at hln
  subst hln
  simp only [gm_stp] at hs
  split at hs
  · unfold gm_nx at hs
    cases hs
    exact lv_lshl hx hb hd rfl (kk H ls locs hP hv hvl hn hnc hlo)
  · cases hs

theorem gs_i2l (hK : gm_Ks g M n0 p R s m args meth c) (hd : decode (gm_b M) pc = .ok (.i2l, len)) (hln : gm_lnb (.i2l) len = true) (hs : gm_stp M (.i2l) pc vs st n rf im lm = some (.inl (pc', vs', st', n', rf', im', lm'))) (hP : gm_P g n rf im lm H) (hv : gm_lv g ls vs) (hvl : vs.length = gm_ml M) (hn : n0 ≤ n) (hnc : gm_nc M = 0 → n = n0) (hlo : ∀ q ∈ locs, gm_A g q.base)
    (kk : ∀ (H1 : Heap) (ls1 : Array Slot) (locs1 : List Loc), gm_P g n' rf' im' lm' H1 → gm_lv g ls1 vs' → vs'.length = gm_ml M → n0 ≤ n' → (gm_nc M = 0 → n' = n0) → (∀ q ∈ locs1, gm_A g q.base) → W p l e R s m args below meth c H1 locs1 (n' - n0) (gm_SL n' - gm_SL n0) Q (F0 m pc' ls1 (st'.map (gm_tr g)))) : W p l e R s m args below meth c H locs (n - n0) (gm_SL n - gm_SL n0) Q (F0 m pc ls (st.map (gm_tr g))) := by
  obtain ⟨hx, hb, hml, hown, hon, hts, hC, hs0, hi0, hin, hR, hmt⟩ := hK
  simp only [gm_lnb, decide_eq_true_eq] at hln
  subst hln
  simp only [gm_stp, gm_i] at hs
  split at hs
  · unfold gm_nx at hs
    cases hs
    exact lv_i2l hx hb hd rfl (kk H ls locs hP hv hvl hn hnc hlo)
  · cases hs

theorem gs_i2b (hK : gm_Ks g M n0 p R s m args meth c) (hd : decode (gm_b M) pc = .ok (.i2b, len)) (hln : gm_lnb (.i2b) len = true) (hs : gm_stp M (.i2b) pc vs st n rf im lm = some (.inl (pc', vs', st', n', rf', im', lm'))) (hP : gm_P g n rf im lm H) (hv : gm_lv g ls vs) (hvl : vs.length = gm_ml M) (hn : n0 ≤ n) (hnc : gm_nc M = 0 → n = n0) (hlo : ∀ q ∈ locs, gm_A g q.base)
    (kk : ∀ (H1 : Heap) (ls1 : Array Slot) (locs1 : List Loc), gm_P g n' rf' im' lm' H1 → gm_lv g ls1 vs' → vs'.length = gm_ml M → n0 ≤ n' → (gm_nc M = 0 → n' = n0) → (∀ q ∈ locs1, gm_A g q.base) → W p l e R s m args below meth c H1 locs1 (n' - n0) (gm_SL n' - gm_SL n0) Q (F0 m pc' ls1 (st'.map (gm_tr g)))) : W p l e R s m args below meth c H locs (n - n0) (gm_SL n - gm_SL n0) Q (F0 m pc ls (st.map (gm_tr g))) := by
  obtain ⟨hx, hb, hml, hown, hon, hts, hC, hs0, hi0, hin, hR, hmt⟩ := hK
  simp only [gm_lnb, decide_eq_true_eq] at hln
  subst hln
  simp only [gm_stp, gm_i] at hs
  split at hs
  · unfold gm_nx at hs
    cases hs
    exact lv_i2b hx hb hd rfl (kk H ls locs hP hv hvl hn hnc hlo)
  · cases hs

theorem gs_i2c (hK : gm_Ks g M n0 p R s m args meth c) (hd : decode (gm_b M) pc = .ok (.i2c, len)) (hln : gm_lnb (.i2c) len = true) (hs : gm_stp M (.i2c) pc vs st n rf im lm = some (.inl (pc', vs', st', n', rf', im', lm'))) (hP : gm_P g n rf im lm H) (hv : gm_lv g ls vs) (hvl : vs.length = gm_ml M) (hn : n0 ≤ n) (hnc : gm_nc M = 0 → n = n0) (hlo : ∀ q ∈ locs, gm_A g q.base)
    (kk : ∀ (H1 : Heap) (ls1 : Array Slot) (locs1 : List Loc), gm_P g n' rf' im' lm' H1 → gm_lv g ls1 vs' → vs'.length = gm_ml M → n0 ≤ n' → (gm_nc M = 0 → n' = n0) → (∀ q ∈ locs1, gm_A g q.base) → W p l e R s m args below meth c H1 locs1 (n' - n0) (gm_SL n' - gm_SL n0) Q (F0 m pc' ls1 (st'.map (gm_tr g)))) : W p l e R s m args below meth c H locs (n - n0) (gm_SL n - gm_SL n0) Q (F0 m pc ls (st.map (gm_tr g))) := by
  obtain ⟨hx, hb, hml, hown, hon, hts, hC, hs0, hi0, hin, hR, hmt⟩ := hK
  simp only [gm_lnb, decide_eq_true_eq] at hln
  subst hln
  simp only [gm_stp, gm_i] at hs
  split at hs
  · unfold gm_nx at hs
    cases hs
    exact lv_i2c hx hb hd rfl (kk H ls locs hP hv hvl hn hnc hlo)
  · cases hs

theorem gs_l2i (hK : gm_Ks g M n0 p R s m args meth c) (hd : decode (gm_b M) pc = .ok (.l2i, len)) (hln : gm_lnb (.l2i) len = true) (hs : gm_stp M (.l2i) pc vs st n rf im lm = some (.inl (pc', vs', st', n', rf', im', lm'))) (hP : gm_P g n rf im lm H) (hv : gm_lv g ls vs) (hvl : vs.length = gm_ml M) (hn : n0 ≤ n) (hnc : gm_nc M = 0 → n = n0) (hlo : ∀ q ∈ locs, gm_A g q.base)
    (kk : ∀ (H1 : Heap) (ls1 : Array Slot) (locs1 : List Loc), gm_P g n' rf' im' lm' H1 → gm_lv g ls1 vs' → vs'.length = gm_ml M → n0 ≤ n' → (gm_nc M = 0 → n' = n0) → (∀ q ∈ locs1, gm_A g q.base) → W p l e R s m args below meth c H1 locs1 (n' - n0) (gm_SL n' - gm_SL n0) Q (F0 m pc' ls1 (st'.map (gm_tr g)))) : W p l e R s m args below meth c H locs (n - n0) (gm_SL n - gm_SL n0) Q (F0 m pc ls (st.map (gm_tr g))) := by
  obtain ⟨hx, hb, hml, hown, hon, hts, hC, hs0, hi0, hin, hR, hmt⟩ := hK
  simp only [gm_lnb, decide_eq_true_eq] at hln
  subst hln
  simp only [gm_stp, gm_l] at hs
  split at hs
  · unfold gm_nx at hs
    cases hs
    exact lv_l2i hx hb hd rfl (kk H ls locs hP hv hvl hn hnc hlo)
  · cases hs

theorem gs_idiv (hK : gm_Ks g M n0 p R s m args meth c) (hd : decode (gm_b M) pc = .ok (.idiv, len)) (hln : gm_lnb (.idiv) len = true) (hs : gm_stp M (.idiv) pc vs st n rf im lm = some (.inl (pc', vs', st', n', rf', im', lm'))) (hP : gm_P g n rf im lm H) (hv : gm_lv g ls vs) (hvl : vs.length = gm_ml M) (hn : n0 ≤ n) (hnc : gm_nc M = 0 → n = n0) (hlo : ∀ q ∈ locs, gm_A g q.base)
    (kk : ∀ (H1 : Heap) (ls1 : Array Slot) (locs1 : List Loc), gm_P g n' rf' im' lm' H1 → gm_lv g ls1 vs' → vs'.length = gm_ml M → n0 ≤ n' → (gm_nc M = 0 → n' = n0) → (∀ q ∈ locs1, gm_A g q.base) → W p l e R s m args below meth c H1 locs1 (n' - n0) (gm_SL n' - gm_SL n0) Q (F0 m pc' ls1 (st'.map (gm_tr g)))) : W p l e R s m args below meth c H locs (n - n0) (gm_SL n - gm_SL n0) Q (F0 m pc ls (st.map (gm_tr g))) := by
  obtain ⟨hx, hb, hml, hown, hon, hts, hC, hs0, hi0, hin, hR, hmt⟩ := hK
  simp only [gm_lnb, decide_eq_true_eq] at hln
  subst hln
  simp only [gm_stp, gm_ii] at hs
  split at hs
  · split at hs
    · cases hs
    · rename_i h0
      unfold gm_nx at hs
      cases hs
      exact lv_idiv hx hb hd h0 (kk H ls locs hP hv hvl hn hnc hlo)
  · cases hs

theorem gs_irem (hK : gm_Ks g M n0 p R s m args meth c) (hd : decode (gm_b M) pc = .ok (.irem, len)) (hln : gm_lnb (.irem) len = true) (hs : gm_stp M (.irem) pc vs st n rf im lm = some (.inl (pc', vs', st', n', rf', im', lm'))) (hP : gm_P g n rf im lm H) (hv : gm_lv g ls vs) (hvl : vs.length = gm_ml M) (hn : n0 ≤ n) (hnc : gm_nc M = 0 → n = n0) (hlo : ∀ q ∈ locs, gm_A g q.base)
    (kk : ∀ (H1 : Heap) (ls1 : Array Slot) (locs1 : List Loc), gm_P g n' rf' im' lm' H1 → gm_lv g ls1 vs' → vs'.length = gm_ml M → n0 ≤ n' → (gm_nc M = 0 → n' = n0) → (∀ q ∈ locs1, gm_A g q.base) → W p l e R s m args below meth c H1 locs1 (n' - n0) (gm_SL n' - gm_SL n0) Q (F0 m pc' ls1 (st'.map (gm_tr g)))) : W p l e R s m args below meth c H locs (n - n0) (gm_SL n - gm_SL n0) Q (F0 m pc ls (st.map (gm_tr g))) := by
  obtain ⟨hx, hb, hml, hown, hon, hts, hC, hs0, hi0, hin, hR, hmt⟩ := hK
  simp only [gm_lnb, decide_eq_true_eq] at hln
  subst hln
  simp only [gm_stp, gm_ii] at hs
  split at hs
  · split at hs
    · cases hs
    · rename_i h0
      unfold gm_nx at hs
      cases hs
      exact lv_irem hx hb hd h0 (kk H ls locs hP hv hvl hn hnc hlo)
  · cases hs

theorem gs_dup (hK : gm_Ks g M n0 p R s m args meth c) (hd : decode (gm_b M) pc = .ok (.dup, len)) (hln : gm_lnb (.dup) len = true) (hs : gm_stp M (.dup) pc vs st n rf im lm = some (.inl (pc', vs', st', n', rf', im', lm'))) (hP : gm_P g n rf im lm H) (hv : gm_lv g ls vs) (hvl : vs.length = gm_ml M) (hn : n0 ≤ n) (hnc : gm_nc M = 0 → n = n0) (hlo : ∀ q ∈ locs, gm_A g q.base)
    (kk : ∀ (H1 : Heap) (ls1 : Array Slot) (locs1 : List Loc), gm_P g n' rf' im' lm' H1 → gm_lv g ls1 vs' → vs'.length = gm_ml M → n0 ≤ n' → (gm_nc M = 0 → n' = n0) → (∀ q ∈ locs1, gm_A g q.base) → W p l e R s m args below meth c H1 locs1 (n' - n0) (gm_SL n' - gm_SL n0) Q (F0 m pc' ls1 (st'.map (gm_tr g)))) : W p l e R s m args below meth c H locs (n - n0) (gm_SL n - gm_SL n0) Q (F0 m pc ls (st.map (gm_tr g))) := by
  obtain ⟨hx, hb, hml, hown, hon, hts, hC, hs0, hi0, hin, hR, hmt⟩ := hK
  simp only [gm_lnb, decide_eq_true_eq] at hln
  subst hln
  simp only [gm_stp] at hs
  split at hs
  · split at hs
    · rename_i h0
      unfold gm_nx at hs
      cases hs
      exact lv_dup hx hb hd (by rw [gm_tr_cat]; exact h0) (kk H ls locs hP hv hvl hn hnc hlo)
    · cases hs
  · cases hs

theorem gs_pop (hK : gm_Ks g M n0 p R s m args meth c) (hd : decode (gm_b M) pc = .ok (.pop, len)) (hln : gm_lnb (.pop) len = true) (hs : gm_stp M (.pop) pc vs st n rf im lm = some (.inl (pc', vs', st', n', rf', im', lm'))) (hP : gm_P g n rf im lm H) (hv : gm_lv g ls vs) (hvl : vs.length = gm_ml M) (hn : n0 ≤ n) (hnc : gm_nc M = 0 → n = n0) (hlo : ∀ q ∈ locs, gm_A g q.base)
    (kk : ∀ (H1 : Heap) (ls1 : Array Slot) (locs1 : List Loc), gm_P g n' rf' im' lm' H1 → gm_lv g ls1 vs' → vs'.length = gm_ml M → n0 ≤ n' → (gm_nc M = 0 → n' = n0) → (∀ q ∈ locs1, gm_A g q.base) → W p l e R s m args below meth c H1 locs1 (n' - n0) (gm_SL n' - gm_SL n0) Q (F0 m pc' ls1 (st'.map (gm_tr g)))) : W p l e R s m args below meth c H locs (n - n0) (gm_SL n - gm_SL n0) Q (F0 m pc ls (st.map (gm_tr g))) := by
  obtain ⟨hx, hb, hml, hown, hon, hts, hC, hs0, hi0, hin, hR, hmt⟩ := hK
  simp only [gm_lnb, decide_eq_true_eq] at hln
  subst hln
  simp only [gm_stp] at hs
  split at hs
  · split at hs
    · rename_i h0
      unfold gm_nx at hs
      cases hs
      exact lv_pop hx hb hd (by rw [gm_tr_cat]; exact h0) (kk H ls locs hP hv hvl hn hnc hlo)
    · cases hs
  · cases hs

theorem gs_dup2 (hK : gm_Ks g M n0 p R s m args meth c) (hd : decode (gm_b M) pc = .ok (.dup2, len)) (hln : gm_lnb (.dup2) len = true) (hs : gm_stp M (.dup2) pc vs st n rf im lm = some (.inl (pc', vs', st', n', rf', im', lm'))) (hP : gm_P g n rf im lm H) (hv : gm_lv g ls vs) (hvl : vs.length = gm_ml M) (hn : n0 ≤ n) (hnc : gm_nc M = 0 → n = n0) (hlo : ∀ q ∈ locs, gm_A g q.base)
    (kk : ∀ (H1 : Heap) (ls1 : Array Slot) (locs1 : List Loc), gm_P g n' rf' im' lm' H1 → gm_lv g ls1 vs' → vs'.length = gm_ml M → n0 ≤ n' → (gm_nc M = 0 → n' = n0) → (∀ q ∈ locs1, gm_A g q.base) → W p l e R s m args below meth c H1 locs1 (n' - n0) (gm_SL n' - gm_SL n0) Q (F0 m pc' ls1 (st'.map (gm_tr g)))) : W p l e R s m args below meth c H locs (n - n0) (gm_SL n - gm_SL n0) Q (F0 m pc ls (st.map (gm_tr g))) := by
  obtain ⟨hx, hb, hml, hown, hon, hts, hC, hs0, hi0, hin, hR, hmt⟩ := hK
  simp only [gm_lnb, decide_eq_true_eq] at hln
  subst hln
  simp only [gm_stp] at hs
  split at hs
  · split at hs
    · rename_i h0
      unfold gm_nx at hs
      cases hs
      exact lv_dup2_11 hx hb hd (by rw [gm_tr_cat]; exact h0.1) (by rw [gm_tr_cat]; exact h0.2) (kk H ls locs hP hv hvl hn hnc hlo)
    · cases hs
  · cases hs

theorem gs_iload_n {k0 : Fin 4} (hK : gm_Ks g M n0 p R s m args meth c) (hd : decode (gm_b M) pc = .ok (.iload_n k0, len)) (hln : gm_lnb (.iload_n k0) len = true) (hs : gm_stp M (.iload_n k0) pc vs st n rf im lm = some (.inl (pc', vs', st', n', rf', im', lm'))) (hP : gm_P g n rf im lm H) (hv : gm_lv g ls vs) (hvl : vs.length = gm_ml M) (hn : n0 ≤ n) (hnc : gm_nc M = 0 → n = n0) (hlo : ∀ q ∈ locs, gm_A g q.base)
    (kk : ∀ (H1 : Heap) (ls1 : Array Slot) (locs1 : List Loc), gm_P g n' rf' im' lm' H1 → gm_lv g ls1 vs' → vs'.length = gm_ml M → n0 ≤ n' → (gm_nc M = 0 → n' = n0) → (∀ q ∈ locs1, gm_A g q.base) → W p l e R s m args below meth c H1 locs1 (n' - n0) (gm_SL n' - gm_SL n0) Q (F0 m pc' ls1 (st'.map (gm_tr g)))) : W p l e R s m args below meth c H locs (n - n0) (gm_SL n - gm_SL n0) Q (F0 m pc ls (st.map (gm_tr g))) := by
  obtain ⟨hx, hb, hml, hown, hon, hts, hC, hs0, hi0, hin, hR, hmt⟩ := hK
  simp only [gm_lnb, decide_eq_true_eq] at hln
  subst hln
  simp only [gm_stp] at hs
  split at hs
  · rename_i x hx1
    unfold gm_nx at hs
    cases hs
    exact lv_iload_n hx hb hd rfl (gm_lv_at hv hx1 (by simp)) (kk H ls locs hP hv hvl hn hnc hlo)
  · cases hs

theorem gs_iload {k0 : Nat} (hK : gm_Ks g M n0 p R s m args meth c) (hd : decode (gm_b M) pc = .ok (.iload k0, len)) (hln : gm_lnb (.iload k0) len = true) (hs : gm_stp M (.iload k0) pc vs st n rf im lm = some (.inl (pc', vs', st', n', rf', im', lm'))) (hP : gm_P g n rf im lm H) (hv : gm_lv g ls vs) (hvl : vs.length = gm_ml M) (hn : n0 ≤ n) (hnc : gm_nc M = 0 → n = n0) (hlo : ∀ q ∈ locs, gm_A g q.base)
    (kk : ∀ (H1 : Heap) (ls1 : Array Slot) (locs1 : List Loc), gm_P g n' rf' im' lm' H1 → gm_lv g ls1 vs' → vs'.length = gm_ml M → n0 ≤ n' → (gm_nc M = 0 → n' = n0) → (∀ q ∈ locs1, gm_A g q.base) → W p l e R s m args below meth c H1 locs1 (n' - n0) (gm_SL n' - gm_SL n0) Q (F0 m pc' ls1 (st'.map (gm_tr g)))) : W p l e R s m args below meth c H locs (n - n0) (gm_SL n - gm_SL n0) Q (F0 m pc ls (st.map (gm_tr g))) := by
  obtain ⟨hx, hb, hml, hown, hon, hts, hC, hs0, hi0, hin, hR, hmt⟩ := hK
  simp only [gm_lnb, decide_eq_true_eq] at hln
  subst hln
  simp only [gm_stp] at hs
  split at hs
  · rename_i x hx1
    unfold gm_nx at hs
    cases hs
    exact lv_iload hx hb hd (gm_lv_at hv hx1 (by simp)) (kk H ls locs hP hv hvl hn hnc hlo)
  · cases hs

theorem gs_lload_n {k0 : Fin 4} (hK : gm_Ks g M n0 p R s m args meth c) (hd : decode (gm_b M) pc = .ok (.lload_n k0, len)) (hln : gm_lnb (.lload_n k0) len = true) (hs : gm_stp M (.lload_n k0) pc vs st n rf im lm = some (.inl (pc', vs', st', n', rf', im', lm'))) (hP : gm_P g n rf im lm H) (hv : gm_lv g ls vs) (hvl : vs.length = gm_ml M) (hn : n0 ≤ n) (hnc : gm_nc M = 0 → n = n0) (hlo : ∀ q ∈ locs, gm_A g q.base)
    (kk : ∀ (H1 : Heap) (ls1 : Array Slot) (locs1 : List Loc), gm_P g n' rf' im' lm' H1 → gm_lv g ls1 vs' → vs'.length = gm_ml M → n0 ≤ n' → (gm_nc M = 0 → n' = n0) → (∀ q ∈ locs1, gm_A g q.base) → W p l e R s m args below meth c H1 locs1 (n' - n0) (gm_SL n' - gm_SL n0) Q (F0 m pc' ls1 (st'.map (gm_tr g)))) : W p l e R s m args below meth c H locs (n - n0) (gm_SL n - gm_SL n0) Q (F0 m pc ls (st.map (gm_tr g))) := by
  obtain ⟨hx, hb, hml, hown, hon, hts, hC, hs0, hi0, hin, hR, hmt⟩ := hK
  simp only [gm_lnb, decide_eq_true_eq] at hln
  subst hln
  simp only [gm_stp] at hs
  split at hs
  · rename_i x hx1
    unfold gm_nx at hs
    cases hs
    exact lv_lload_n hx hb hd rfl (gm_lv_at hv hx1 (by simp)) (kk H ls locs hP hv hvl hn hnc hlo)
  · cases hs

theorem gs_lload {k0 : Nat} (hK : gm_Ks g M n0 p R s m args meth c) (hd : decode (gm_b M) pc = .ok (.lload k0, len)) (hln : gm_lnb (.lload k0) len = true) (hs : gm_stp M (.lload k0) pc vs st n rf im lm = some (.inl (pc', vs', st', n', rf', im', lm'))) (hP : gm_P g n rf im lm H) (hv : gm_lv g ls vs) (hvl : vs.length = gm_ml M) (hn : n0 ≤ n) (hnc : gm_nc M = 0 → n = n0) (hlo : ∀ q ∈ locs, gm_A g q.base)
    (kk : ∀ (H1 : Heap) (ls1 : Array Slot) (locs1 : List Loc), gm_P g n' rf' im' lm' H1 → gm_lv g ls1 vs' → vs'.length = gm_ml M → n0 ≤ n' → (gm_nc M = 0 → n' = n0) → (∀ q ∈ locs1, gm_A g q.base) → W p l e R s m args below meth c H1 locs1 (n' - n0) (gm_SL n' - gm_SL n0) Q (F0 m pc' ls1 (st'.map (gm_tr g)))) : W p l e R s m args below meth c H locs (n - n0) (gm_SL n - gm_SL n0) Q (F0 m pc ls (st.map (gm_tr g))) := by
  obtain ⟨hx, hb, hml, hown, hon, hts, hC, hs0, hi0, hin, hR, hmt⟩ := hK
  simp only [gm_lnb, decide_eq_true_eq] at hln
  subst hln
  simp only [gm_stp] at hs
  split at hs
  · rename_i x hx1
    unfold gm_nx at hs
    cases hs
    exact lv_lload hx hb hd (gm_lv_at hv hx1 (by simp)) (kk H ls locs hP hv hvl hn hnc hlo)
  · cases hs

theorem gs_aload_n {k0 : Fin 4} (hK : gm_Ks g M n0 p R s m args meth c) (hd : decode (gm_b M) pc = .ok (.aload_n k0, len)) (hln : gm_lnb (.aload_n k0) len = true) (hs : gm_stp M (.aload_n k0) pc vs st n rf im lm = some (.inl (pc', vs', st', n', rf', im', lm'))) (hP : gm_P g n rf im lm H) (hv : gm_lv g ls vs) (hvl : vs.length = gm_ml M) (hn : n0 ≤ n) (hnc : gm_nc M = 0 → n = n0) (hlo : ∀ q ∈ locs, gm_A g q.base)
    (kk : ∀ (H1 : Heap) (ls1 : Array Slot) (locs1 : List Loc), gm_P g n' rf' im' lm' H1 → gm_lv g ls1 vs' → vs'.length = gm_ml M → n0 ≤ n' → (gm_nc M = 0 → n' = n0) → (∀ q ∈ locs1, gm_A g q.base) → W p l e R s m args below meth c H1 locs1 (n' - n0) (gm_SL n' - gm_SL n0) Q (F0 m pc' ls1 (st'.map (gm_tr g)))) : W p l e R s m args below meth c H locs (n - n0) (gm_SL n - gm_SL n0) Q (F0 m pc ls (st.map (gm_tr g))) := by
  obtain ⟨hx, hb, hml, hown, hon, hts, hC, hs0, hi0, hin, hR, hmt⟩ := hK
  simp only [gm_lnb, decide_eq_true_eq] at hln
  subst hln
  simp only [gm_stp] at hs
  split at hs
  · rename_i x hx1
    split at hs
    · cases hs
    · rename_i h0
      unfold gm_nx at hs
      cases hs
      have h1 := gm_lv_at hv hx1 (by simp)
      rw [gm_tr_ref h0] at h1
      have h2 := (kk H ls locs hP hv hvl hn hnc hlo)
      rw [List.map_cons, gm_tr_ref h0] at h2
      exact lv_aload_n hx hb hd rfl h1 h2
  · cases hs

theorem gs_istore_n {k0 : Fin 4} (hK : gm_Ks g M n0 p R s m args meth c) (hd : decode (gm_b M) pc = .ok (.istore_n k0, len)) (hln : gm_lnb (.istore_n k0) len = true) (hs : gm_stp M (.istore_n k0) pc vs st n rf im lm = some (.inl (pc', vs', st', n', rf', im', lm'))) (hP : gm_P g n rf im lm H) (hv : gm_lv g ls vs) (hvl : vs.length = gm_ml M) (hn : n0 ≤ n) (hnc : gm_nc M = 0 → n = n0) (hlo : ∀ q ∈ locs, gm_A g q.base)
    (kk : ∀ (H1 : Heap) (ls1 : Array Slot) (locs1 : List Loc), gm_P g n' rf' im' lm' H1 → gm_lv g ls1 vs' → vs'.length = gm_ml M → n0 ≤ n' → (gm_nc M = 0 → n' = n0) → (∀ q ∈ locs1, gm_A g q.base) → W p l e R s m args below meth c H1 locs1 (n' - n0) (gm_SL n' - gm_SL n0) Q (F0 m pc' ls1 (st'.map (gm_tr g)))) : W p l e R s m args below meth c H locs (n - n0) (gm_SL n - gm_SL n0) Q (F0 m pc ls (st.map (gm_tr g))) := by
  obtain ⟨hx, hb, hml, hown, hon, hts, hC, hs0, hi0, hin, hR, hmt⟩ := hK
  simp only [gm_lnb, decide_eq_true_eq] at hln
  subst hln
  simp only [gm_stp, gm_i] at hs
  split at hs
  · split at hs
    · rename_i ws hws
      unfold gm_nx at hs
      cases hs
      exact lv_istore_n hx hb hd rfl hv (gm_s1_lt hws) rfl (fun ls1 h1 => kk H ls1 locs hP (gm_lv_s1 hws rfl rfl h1) ((gm_s1_len hws).trans hvl) hn hnc hlo)
    · cases hs
  · cases hs

theorem gs_istore {k0 : Nat} (hK : gm_Ks g M n0 p R s m args meth c) (hd : decode (gm_b M) pc = .ok (.istore k0, len)) (hln : gm_lnb (.istore k0) len = true) (hs : gm_stp M (.istore k0) pc vs st n rf im lm = some (.inl (pc', vs', st', n', rf', im', lm'))) (hP : gm_P g n rf im lm H) (hv : gm_lv g ls vs) (hvl : vs.length = gm_ml M) (hn : n0 ≤ n) (hnc : gm_nc M = 0 → n = n0) (hlo : ∀ q ∈ locs, gm_A g q.base)
    (kk : ∀ (H1 : Heap) (ls1 : Array Slot) (locs1 : List Loc), gm_P g n' rf' im' lm' H1 → gm_lv g ls1 vs' → vs'.length = gm_ml M → n0 ≤ n' → (gm_nc M = 0 → n' = n0) → (∀ q ∈ locs1, gm_A g q.base) → W p l e R s m args below meth c H1 locs1 (n' - n0) (gm_SL n' - gm_SL n0) Q (F0 m pc' ls1 (st'.map (gm_tr g)))) : W p l e R s m args below meth c H locs (n - n0) (gm_SL n - gm_SL n0) Q (F0 m pc ls (st.map (gm_tr g))) := by
  obtain ⟨hx, hb, hml, hown, hon, hts, hC, hs0, hi0, hin, hR, hmt⟩ := hK
  simp only [gm_lnb, decide_eq_true_eq] at hln
  subst hln
  simp only [gm_stp, gm_i] at hs
  split at hs
  · split at hs
    · rename_i ws hws
      unfold gm_nx at hs
      cases hs
      exact lv_istore hx hb hd hv (gm_s1_lt hws) rfl (fun ls1 h1 => kk H ls1 locs hP (gm_lv_s1 hws rfl rfl h1) ((gm_s1_len hws).trans hvl) hn hnc hlo)
    · cases hs
  · cases hs

theorem gs_lstore_n {k0 : Fin 4} (hK : gm_Ks g M n0 p R s m args meth c) (hd : decode (gm_b M) pc = .ok (.lstore_n k0, len)) (hln : gm_lnb (.lstore_n k0) len = true) (hs : gm_stp M (.lstore_n k0) pc vs st n rf im lm = some (.inl (pc', vs', st', n', rf', im', lm'))) (hP : gm_P g n rf im lm H) (hv : gm_lv g ls vs) (hvl : vs.length = gm_ml M) (hn : n0 ≤ n) (hnc : gm_nc M = 0 → n = n0) (hlo : ∀ q ∈ locs, gm_A g q.base)
    (kk : ∀ (H1 : Heap) (ls1 : Array Slot) (locs1 : List Loc), gm_P g n' rf' im' lm' H1 → gm_lv g ls1 vs' → vs'.length = gm_ml M → n0 ≤ n' → (gm_nc M = 0 → n' = n0) → (∀ q ∈ locs1, gm_A g q.base) → W p l e R s m args below meth c H1 locs1 (n' - n0) (gm_SL n' - gm_SL n0) Q (F0 m pc' ls1 (st'.map (gm_tr g)))) : W p l e R s m args below meth c H locs (n - n0) (gm_SL n - gm_SL n0) Q (F0 m pc ls (st.map (gm_tr g))) := by
  obtain ⟨hx, hb, hml, hown, hon, hts, hC, hs0, hi0, hin, hR, hmt⟩ := hK
  simp only [gm_lnb, decide_eq_true_eq] at hln
  subst hln
  simp only [gm_stp, gm_l] at hs
  split at hs
  · split at hs
    · rename_i ws hws
      unfold gm_nx at hs
      cases hs
      exact lv_lstore_n hx hb hd rfl hv (gm_s2_lt hws) rfl (fun ls1 h1 => kk H ls1 locs hP (gm_lv_s2 hws rfl rfl h1) ((gm_s2_len hws).trans hvl) hn hnc hlo)
    · cases hs
  · cases hs

theorem gs_lstore {k0 : Nat} (hK : gm_Ks g M n0 p R s m args meth c) (hd : decode (gm_b M) pc = .ok (.lstore k0, len)) (hln : gm_lnb (.lstore k0) len = true) (hs : gm_stp M (.lstore k0) pc vs st n rf im lm = some (.inl (pc', vs', st', n', rf', im', lm'))) (hP : gm_P g n rf im lm H) (hv : gm_lv g ls vs) (hvl : vs.length = gm_ml M) (hn : n0 ≤ n) (hnc : gm_nc M = 0 → n = n0) (hlo : ∀ q ∈ locs, gm_A g q.base)
    (kk : ∀ (H1 : Heap) (ls1 : Array Slot) (locs1 : List Loc), gm_P g n' rf' im' lm' H1 → gm_lv g ls1 vs' → vs'.length = gm_ml M → n0 ≤ n' → (gm_nc M = 0 → n' = n0) → (∀ q ∈ locs1, gm_A g q.base) → W p l e R s m args below meth c H1 locs1 (n' - n0) (gm_SL n' - gm_SL n0) Q (F0 m pc' ls1 (st'.map (gm_tr g)))) : W p l e R s m args below meth c H locs (n - n0) (gm_SL n - gm_SL n0) Q (F0 m pc ls (st.map (gm_tr g))) := by
  obtain ⟨hx, hb, hml, hown, hon, hts, hC, hs0, hi0, hin, hR, hmt⟩ := hK
  simp only [gm_lnb, decide_eq_true_eq] at hln
  subst hln
  simp only [gm_stp, gm_l] at hs
  split at hs
  · split at hs
    · rename_i ws hws
      unfold gm_nx at hs
      cases hs
      exact lv_lstore hx hb hd hv (gm_s2_lt hws) rfl (fun ls1 h1 => kk H ls1 locs hP (gm_lv_s2 hws rfl rfl h1) ((gm_s2_len hws).trans hvl) hn hnc hlo)
    · cases hs
  · cases hs

theorem gs_astore_n {k0 : Fin 4} (hK : gm_Ks g M n0 p R s m args meth c) (hd : decode (gm_b M) pc = .ok (.astore_n k0, len)) (hln : gm_lnb (.astore_n k0) len = true) (hs : gm_stp M (.astore_n k0) pc vs st n rf im lm = some (.inl (pc', vs', st', n', rf', im', lm'))) (hP : gm_P g n rf im lm H) (hv : gm_lv g ls vs) (hvl : vs.length = gm_ml M) (hn : n0 ≤ n) (hnc : gm_nc M = 0 → n = n0) (hlo : ∀ q ∈ locs, gm_A g q.base)
    (kk : ∀ (H1 : Heap) (ls1 : Array Slot) (locs1 : List Loc), gm_P g n' rf' im' lm' H1 → gm_lv g ls1 vs' → vs'.length = gm_ml M → n0 ≤ n' → (gm_nc M = 0 → n' = n0) → (∀ q ∈ locs1, gm_A g q.base) → W p l e R s m args below meth c H1 locs1 (n' - n0) (gm_SL n' - gm_SL n0) Q (F0 m pc' ls1 (st'.map (gm_tr g)))) : W p l e R s m args below meth c H locs (n - n0) (gm_SL n - gm_SL n0) Q (F0 m pc ls (st.map (gm_tr g))) := by
  obtain ⟨hx, hb, hml, hown, hon, hts, hC, hs0, hi0, hin, hR, hmt⟩ := hK
  simp only [gm_lnb, decide_eq_true_eq] at hln
  subst hln
  simp only [gm_stp, gm_a] at hs
  split at hs
  · split at hs
    · cases hs
    · rename_i h0
      split at hs
      · rename_i ws hws
        unfold gm_nx at hs
        cases hs
        rw [List.map_cons, gm_tr_ref h0]
        exact lv_astore_n hx hb hd rfl hv (gm_s1_lt hws) rfl (fun ls1 h1 => kk H ls1 locs hP (gm_lv_s1 hws (gm_tr_ref h0).symm rfl h1) ((gm_s1_len hws).trans hvl) hn hnc hlo)
      · cases hs
  · cases hs

theorem gm_tl_place {vs : List Value} {i : Nat} {v : Value} (h : vs[i]? = some v) (hn : v ≠ .null) : ∃ j : Nat, (gm_tl g vs)[j]? = some (i, gm_tr g v) := List.mem_iff_getElem?.mp (gm_tl_mem.mpr ⟨v, h, hn, rfl⟩)
theorem gs_iinc {k0 : Nat} {k1 : Int} (hK : gm_Ks g M n0 p R s m args meth c) (hd : decode (gm_b M) pc = .ok (.iinc k0 k1, len)) (hln : gm_lnb (.iinc k0 k1) len = true) (hs : gm_stp M (.iinc k0 k1) pc vs st n rf im lm = some (.inl (pc', vs', st', n', rf', im', lm'))) (hP : gm_P g n rf im lm H) (hv : gm_lv g ls vs) (hvl : vs.length = gm_ml M) (hn : n0 ≤ n) (hnc : gm_nc M = 0 → n = n0) (hlo : ∀ q ∈ locs, gm_A g q.base)
    (kk : ∀ (H1 : Heap) (ls1 : Array Slot) (locs1 : List Loc), gm_P g n' rf' im' lm' H1 → gm_lv g ls1 vs' → vs'.length = gm_ml M → n0 ≤ n' → (gm_nc M = 0 → n' = n0) → (∀ q ∈ locs1, gm_A g q.base) → W p l e R s m args below meth c H1 locs1 (n' - n0) (gm_SL n' - gm_SL n0) Q (F0 m pc' ls1 (st'.map (gm_tr g)))) : W p l e R s m args below meth c H locs (n - n0) (gm_SL n - gm_SL n0) Q (F0 m pc ls (st.map (gm_tr g))) := by
  obtain ⟨hx, hb, hml, hown, hon, hts, hC, hs0, hi0, hin, hR, hmt⟩ := hK
  simp only [gm_lnb, decide_eq_true_eq] at hln
  subst hln
  simp only [gm_stp] at hs
  split at hs
  · rename_i x hx1
    split at hs
    · rename_i ws hws
      unfold gm_nx at hs
      cases hs
      obtain ⟨j, hj⟩ := gm_tl_place (g := g) hx1 (by simp)
      exact lv_iinc hx hb hd hv hj rfl (gm_s1_lt hws) rfl (fun ls1 h1 => kk H ls1 locs hP (gm_lv_s1 hws rfl rfl h1) ((gm_s1_len hws).trans hvl) hn hnc hlo)
    · cases hs
  · cases hs

theorem gs_goto {off : Int} (hK : gm_Ks g M n0 p R s m args meth c) (hd : decode (gm_b M) pc = .ok (.goto off, len)) (hln : gm_lnb (.goto off) len = true) (hs : gm_stp M (.goto off) pc vs st n rf im lm = some (.inl (pc', vs', st', n', rf', im', lm'))) (hP : gm_P g n rf im lm H) (hv : gm_lv g ls vs) (hvl : vs.length = gm_ml M) (hn : n0 ≤ n) (hnc : gm_nc M = 0 → n = n0) (hlo : ∀ q ∈ locs, gm_A g q.base)
    (kk : ∀ (H1 : Heap) (ls1 : Array Slot) (locs1 : List Loc), gm_P g n' rf' im' lm' H1 → gm_lv g ls1 vs' → vs'.length = gm_ml M → n0 ≤ n' → (gm_nc M = 0 → n' = n0) → (∀ q ∈ locs1, gm_A g q.base) → W p l e R s m args below meth c H1 locs1 (n' - n0) (gm_SL n' - gm_SL n0) Q (F0 m pc' ls1 (st'.map (gm_tr g)))) : W p l e R s m args below meth c H locs (n - n0) (gm_SL n - gm_SL n0) Q (F0 m pc ls (st.map (gm_tr g))) := by
  obtain ⟨hx, hb, hml, hown, hon, hts, hC, hs0, hi0, hin, hR, hmt⟩ := hK
  simp only [gm_lnb, decide_eq_true_eq] at hln
  subst hln
  simp only [gm_stp, gm_jm] at hs
  split at hs
  · rename_i t ht
    unfold gm_nx at hs
    cases hs
    exact lv_goto hx hb hd (gm_j_spec ht) (kk H ls locs hP hv hvl hn hnc hlo)
  · cases hs

theorem gs_ifCond_eq {off : Int} (hK : gm_Ks g M n0 p R s m args meth c) (hd : decode (gm_b M) pc = .ok (.ifCond .eq off, len)) (hln : gm_lnb (.ifCond .eq off) len = true) (hs : gm_stp M (.ifCond .eq off) pc vs st n rf im lm = some (.inl (pc', vs', st', n', rf', im', lm'))) (hP : gm_P g n rf im lm H) (hv : gm_lv g ls vs) (hvl : vs.length = gm_ml M) (hn : n0 ≤ n) (hnc : gm_nc M = 0 → n = n0) (hlo : ∀ q ∈ locs, gm_A g q.base)
    (kk : ∀ (H1 : Heap) (ls1 : Array Slot) (locs1 : List Loc), gm_P g n' rf' im' lm' H1 → gm_lv g ls1 vs' → vs'.length = gm_ml M → n0 ≤ n' → (gm_nc M = 0 → n' = n0) → (∀ q ∈ locs1, gm_A g q.base) → W p l e R s m args below meth c H1 locs1 (n' - n0) (gm_SL n' - gm_SL n0) Q (F0 m pc' ls1 (st'.map (gm_tr g)))) : W p l e R s m args below meth c H locs (n - n0) (gm_SL n - gm_SL n0) Q (F0 m pc ls (st.map (gm_tr g))) := by
  obtain ⟨hx, hb, hml, hown, hon, hts, hC, hs0, hi0, hin, hR, hmt⟩ := hK
  simp only [gm_lnb, decide_eq_true_eq] at hln
  subst hln
  simp only [gm_stp] at hs
  split at hs
  · rename_i t ht
    simp only [gm_i] at hs
    split at hs
    · simp only [gm_cd, gm_nx, decide_eq_true_eq, Bool.not_eq_true', decide_eq_false_iff_not] at hs
      refine lv_if_eq hx hb hd (gm_j_spec ht) (fun h => ?_) (fun h => ?_)
      · rw [if_pos h] at hs
        cases hs
        exact kk H ls locs hP hv hvl hn hnc hlo
      · rw [if_neg h] at hs
        cases hs
        exact kk H ls locs hP hv hvl hn hnc hlo
    · cases hs
  · cases hs

theorem gs_ifCond_ne {off : Int} (hK : gm_Ks g M n0 p R s m args meth c) (hd : decode (gm_b M) pc = .ok (.ifCond .ne off, len)) (hln : gm_lnb (.ifCond .ne off) len = true) (hs : gm_stp M (.ifCond .ne off) pc vs st n rf im lm = some (.inl (pc', vs', st', n', rf', im', lm'))) (hP : gm_P g n rf im lm H) (hv : gm_lv g ls vs) (hvl : vs.length = gm_ml M) (hn : n0 ≤ n) (hnc : gm_nc M = 0 → n = n0) (hlo : ∀ q ∈ locs, gm_A g q.base)
    (kk : ∀ (H1 : Heap) (ls1 : Array Slot) (locs1 : List Loc), gm_P g n' rf' im' lm' H1 → gm_lv g ls1 vs' → vs'.length = gm_ml M → n0 ≤ n' → (gm_nc M = 0 → n' = n0) → (∀ q ∈ locs1, gm_A g q.base) → W p l e R s m args below meth c H1 locs1 (n' - n0) (gm_SL n' - gm_SL n0) Q (F0 m pc' ls1 (st'.map (gm_tr g)))) : W p l e R s m args below meth c H locs (n - n0) (gm_SL n - gm_SL n0) Q (F0 m pc ls (st.map (gm_tr g))) := by
  obtain ⟨hx, hb, hml, hown, hon, hts, hC, hs0, hi0, hin, hR, hmt⟩ := hK
  simp only [gm_lnb, decide_eq_true_eq] at hln
  subst hln
  simp only [gm_stp] at hs
  split at hs
  · rename_i t ht
    simp only [gm_i] at hs
    split at hs
    · simp only [gm_cd, gm_nx, decide_eq_true_eq, Bool.not_eq_true', decide_eq_false_iff_not] at hs
      refine lv_if_ne hx hb hd (gm_j_spec ht) (fun h => ?_) (fun h => ?_)
      · rw [if_pos h] at hs
        cases hs
        exact kk H ls locs hP hv hvl hn hnc hlo
      · rw [if_neg (fun q => q h)] at hs
        cases hs
        exact kk H ls locs hP hv hvl hn hnc hlo
    · cases hs
  · cases hs

theorem gs_ifCond_lt {off : Int} (hK : gm_Ks g M n0 p R s m args meth c) (hd : decode (gm_b M) pc = .ok (.ifCond .lt off, len)) (hln : gm_lnb (.ifCond .lt off) len = true) (hs : gm_stp M (.ifCond .lt off) pc vs st n rf im lm = some (.inl (pc', vs', st', n', rf', im', lm'))) (hP : gm_P g n rf im lm H) (hv : gm_lv g ls vs) (hvl : vs.length = gm_ml M) (hn : n0 ≤ n) (hnc : gm_nc M = 0 → n = n0) (hlo : ∀ q ∈ locs, gm_A g q.base)
    (kk : ∀ (H1 : Heap) (ls1 : Array Slot) (locs1 : List Loc), gm_P g n' rf' im' lm' H1 → gm_lv g ls1 vs' → vs'.length = gm_ml M → n0 ≤ n' → (gm_nc M = 0 → n' = n0) → (∀ q ∈ locs1, gm_A g q.base) → W p l e R s m args below meth c H1 locs1 (n' - n0) (gm_SL n' - gm_SL n0) Q (F0 m pc' ls1 (st'.map (gm_tr g)))) : W p l e R s m args below meth c H locs (n - n0) (gm_SL n - gm_SL n0) Q (F0 m pc ls (st.map (gm_tr g))) := by
  obtain ⟨hx, hb, hml, hown, hon, hts, hC, hs0, hi0, hin, hR, hmt⟩ := hK
  simp only [gm_lnb, decide_eq_true_eq] at hln
  subst hln
  simp only [gm_stp] at hs
  split at hs
  · rename_i t ht
    simp only [gm_i] at hs
    split at hs
    · simp only [gm_cd, gm_nx, decide_eq_true_eq, Bool.not_eq_true', decide_eq_false_iff_not] at hs
      refine lv_if_lt hx hb hd (gm_j_spec ht) (fun h => ?_) (fun h => ?_)
      · rw [if_pos h] at hs
        cases hs
        exact kk H ls locs hP hv hvl hn hnc hlo
      · rw [if_neg h] at hs
        cases hs
        exact kk H ls locs hP hv hvl hn hnc hlo
    · cases hs
  · cases hs

theorem gs_ifCond_ge {off : Int} (hK : gm_Ks g M n0 p R s m args meth c) (hd : decode (gm_b M) pc = .ok (.ifCond .ge off, len)) (hln : gm_lnb (.ifCond .ge off) len = true) (hs : gm_stp M (.ifCond .ge off) pc vs st n rf im lm = some (.inl (pc', vs', st', n', rf', im', lm'))) (hP : gm_P g n rf im lm H) (hv : gm_lv g ls vs) (hvl : vs.length = gm_ml M) (hn : n0 ≤ n) (hnc : gm_nc M = 0 → n = n0) (hlo : ∀ q ∈ locs, gm_A g q.base)
    (kk : ∀ (H1 : Heap) (ls1 : Array Slot) (locs1 : List Loc), gm_P g n' rf' im' lm' H1 → gm_lv g ls1 vs' → vs'.length = gm_ml M → n0 ≤ n' → (gm_nc M = 0 → n' = n0) → (∀ q ∈ locs1, gm_A g q.base) → W p l e R s m args below meth c H1 locs1 (n' - n0) (gm_SL n' - gm_SL n0) Q (F0 m pc' ls1 (st'.map (gm_tr g)))) : W p l e R s m args below meth c H locs (n - n0) (gm_SL n - gm_SL n0) Q (F0 m pc ls (st.map (gm_tr g))) := by
  obtain ⟨hx, hb, hml, hown, hon, hts, hC, hs0, hi0, hin, hR, hmt⟩ := hK
  simp only [gm_lnb, decide_eq_true_eq] at hln
  subst hln
  simp only [gm_stp] at hs
  split at hs
  · rename_i t ht
    simp only [gm_i] at hs
    split at hs
    · simp only [gm_cd, gm_nx, decide_eq_true_eq, Bool.not_eq_true', decide_eq_false_iff_not] at hs
      refine lv_if_ge hx hb hd (gm_j_spec ht) (fun h => ?_) (fun h => ?_)
      · rw [if_pos h] at hs
        cases hs
        exact kk H ls locs hP hv hvl hn hnc hlo
      · rw [if_neg h] at hs
        cases hs
        exact kk H ls locs hP hv hvl hn hnc hlo
    · cases hs
  · cases hs

theorem gs_ifCond_gt {off : Int} (hK : gm_Ks g M n0 p R s m args meth c) (hd : decode (gm_b M) pc = .ok (.ifCond .gt off, len)) (hln : gm_lnb (.ifCond .gt off) len = true) (hs : gm_stp M (.ifCond .gt off) pc vs st n rf im lm = some (.inl (pc', vs', st', n', rf', im', lm'))) (hP : gm_P g n rf im lm H) (hv : gm_lv g ls vs) (hvl : vs.length = gm_ml M) (hn : n0 ≤ n) (hnc : gm_nc M = 0 → n = n0) (hlo : ∀ q ∈ locs, gm_A g q.base)
    (kk : ∀ (H1 : Heap) (ls1 : Array Slot) (locs1 : List Loc), gm_P g n' rf' im' lm' H1 → gm_lv g ls1 vs' → vs'.length = gm_ml M → n0 ≤ n' → (gm_nc M = 0 → n' = n0) → (∀ q ∈ locs1, gm_A g q.base) → W p l e R s m args below meth c H1 locs1 (n' - n0) (gm_SL n' - gm_SL n0) Q (F0 m pc' ls1 (st'.map (gm_tr g)))) : W p l e R s m args below meth c H locs (n - n0) (gm_SL n - gm_SL n0) Q (F0 m pc ls (st.map (gm_tr g))) := by
  obtain ⟨hx, hb, hml, hown, hon, hts, hC, hs0, hi0, hin, hR, hmt⟩ := hK
  simp only [gm_lnb, decide_eq_true_eq] at hln
  subst hln
  simp only [gm_stp] at hs
  split at hs
  · rename_i t ht
    simp only [gm_i] at hs
    split at hs
    · simp only [gm_cd, gm_nx, decide_eq_true_eq, Bool.not_eq_true', decide_eq_false_iff_not] at hs
      refine lv_if_gt hx hb hd (gm_j_spec ht) (fun h => ?_) (fun h => ?_)
      · rw [if_pos h] at hs
        cases hs
        exact kk H ls locs hP hv hvl hn hnc hlo
      · rw [if_neg h] at hs
        cases hs
        exact kk H ls locs hP hv hvl hn hnc hlo
    · cases hs
  · cases hs

theorem gs_ifCond_le {off : Int} (hK : gm_Ks g M n0 p R s m args meth c) (hd : decode (gm_b M) pc = .ok (.ifCond .le off, len)) (hln : gm_lnb (.ifCond .le off) len = true) (hs : gm_stp M (.ifCond .le off) pc vs st n rf im lm = some (.inl (pc', vs', st', n', rf', im', lm'))) (hP : gm_P g n rf im lm H) (hv : gm_lv g ls vs) (hvl : vs.length = gm_ml M) (hn : n0 ≤ n) (hnc : gm_nc M = 0 → n = n0) (hlo : ∀ q ∈ locs, gm_A g q.base)
    (kk : ∀ (H1 : Heap) (ls1 : Array Slot) (locs1 : List Loc), gm_P g n' rf' im' lm' H1 → gm_lv g ls1 vs' → vs'.length = gm_ml M → n0 ≤ n' → (gm_nc M = 0 → n' = n0) → (∀ q ∈ locs1, gm_A g q.base) → W p l e R s m args below meth c H1 locs1 (n' - n0) (gm_SL n' - gm_SL n0) Q (F0 m pc' ls1 (st'.map (gm_tr g)))) : W p l e R s m args below meth c H locs (n - n0) (gm_SL n - gm_SL n0) Q (F0 m pc ls (st.map (gm_tr g))) := by
  obtain ⟨hx, hb, hml, hown, hon, hts, hC, hs0, hi0, hin, hR, hmt⟩ := hK
  simp only [gm_lnb, decide_eq_true_eq] at hln
  subst hln
  simp only [gm_stp] at hs
  split at hs
  · rename_i t ht
    simp only [gm_i] at hs
    split at hs
    · simp only [gm_cd, gm_nx, decide_eq_true_eq, Bool.not_eq_true', decide_eq_false_iff_not] at hs
      refine lv_if_le hx hb hd (gm_j_spec ht) (fun h => ?_) (fun h => ?_)
      · rw [if_pos h] at hs
        cases hs
        exact kk H ls locs hP hv hvl hn hnc hlo
      · rw [if_neg h] at hs
        cases hs
        exact kk H ls locs hP hv hvl hn hnc hlo
    · cases hs
  · cases hs

theorem gs_if_icmp_eq {off : Int} (hK : gm_Ks g M n0 p R s m args meth c) (hd : decode (gm_b M) pc = .ok (.if_icmp .eq off, len)) (hln : gm_lnb (.if_icmp .eq off) len = true) (hs : gm_stp M (.if_icmp .eq off) pc vs st n rf im lm = some (.inl (pc', vs', st', n', rf', im', lm'))) (hP : gm_P g n rf im lm H) (hv : gm_lv g ls vs) (hvl : vs.length = gm_ml M) (hn : n0 ≤ n) (hnc : gm_nc M = 0 → n = n0) (hlo : ∀ q ∈ locs, gm_A g q.base)
    (kk : ∀ (H1 : Heap) (ls1 : Array Slot) (locs1 : List Loc), gm_P g n' rf' im' lm' H1 → gm_lv g ls1 vs' → vs'.length = gm_ml M → n0 ≤ n' → (gm_nc M = 0 → n' = n0) → (∀ q ∈ locs1, gm_A g q.base) → W p l e R s m args below meth c H1 locs1 (n' - n0) (gm_SL n' - gm_SL n0) Q (F0 m pc' ls1 (st'.map (gm_tr g)))) : W p l e R s m args below meth c H locs (n - n0) (gm_SL n - gm_SL n0) Q (F0 m pc ls (st.map (gm_tr g))) := by
  obtain ⟨hx, hb, hml, hown, hon, hts, hC, hs0, hi0, hin, hR, hmt⟩ := hK
  simp only [gm_lnb, decide_eq_true_eq] at hln
  subst hln
  simp only [gm_stp] at hs
  split at hs
  · rename_i t ht
    simp only [gm_ii] at hs
    split at hs
    · simp only [gm_cd, gm_nx, decide_eq_true_eq, Bool.not_eq_true', decide_eq_false_iff_not] at hs
      refine lv_icmp_eq hx hb hd (gm_j_spec ht) (fun h => ?_) (fun h => ?_)
      · rw [if_pos h] at hs
        cases hs
        exact kk H ls locs hP hv hvl hn hnc hlo
      · rw [if_neg h] at hs
        cases hs
        exact kk H ls locs hP hv hvl hn hnc hlo
    · cases hs
  · cases hs

theorem gs_if_icmp_ne {off : Int} (hK : gm_Ks g M n0 p R s m args meth c) (hd : decode (gm_b M) pc = .ok (.if_icmp .ne off, len)) (hln : gm_lnb (.if_icmp .ne off) len = true) (hs : gm_stp M (.if_icmp .ne off) pc vs st n rf im lm = some (.inl (pc', vs', st', n', rf', im', lm'))) (hP : gm_P g n rf im lm H) (hv : gm_lv g ls vs) (hvl : vs.length = gm_ml M) (hn : n0 ≤ n) (hnc : gm_nc M = 0 → n = n0) (hlo : ∀ q ∈ locs, gm_A g q.base)
    (kk : ∀ (H1 : Heap) (ls1 : Array Slot) (locs1 : List Loc), gm_P g n' rf' im' lm' H1 → gm_lv g ls1 vs' → vs'.length = gm_ml M → n0 ≤ n' → (gm_nc M = 0 → n' = n0) → (∀ q ∈ locs1, gm_A g q.base) → W p l e R s m args below meth c H1 locs1 (n' - n0) (gm_SL n' - gm_SL n0) Q (F0 m pc' ls1 (st'.map (gm_tr g)))) : W p l e R s m args below meth c H locs (n - n0) (gm_SL n - gm_SL n0) Q (F0 m pc ls (st.map (gm_tr g))) := by
  obtain ⟨hx, hb, hml, hown, hon, hts, hC, hs0, hi0, hin, hR, hmt⟩ := hK
  simp only [gm_lnb, decide_eq_true_eq] at hln
  subst hln
  simp only [gm_stp] at hs
  split at hs
  · rename_i t ht
    simp only [gm_ii] at hs
    split at hs
    · simp only [gm_cd, gm_nx, decide_eq_true_eq, Bool.not_eq_true', decide_eq_false_iff_not] at hs
      refine lv_icmp_ne hx hb hd (gm_j_spec ht) (fun h => ?_) (fun h => ?_)
      · rw [if_pos h] at hs
        cases hs
        exact kk H ls locs hP hv hvl hn hnc hlo
      · rw [if_neg (fun q => q h)] at hs
        cases hs
        exact kk H ls locs hP hv hvl hn hnc hlo
    · cases hs
  · cases hs

theorem gs_if_icmp_lt {off : Int} (hK : gm_Ks g M n0 p R s m args meth c) (hd : decode (gm_b M) pc = .ok (.if_icmp .lt off, len)) (hln : gm_lnb (.if_icmp .lt off) len = true) (hs : gm_stp M (.if_icmp .lt off) pc vs st n rf im lm = some (.inl (pc', vs', st', n', rf', im', lm'))) (hP : gm_P g n rf im lm H) (hv : gm_lv g ls vs) (hvl : vs.length = gm_ml M) (hn : n0 ≤ n) (hnc : gm_nc M = 0 → n = n0) (hlo : ∀ q ∈ locs, gm_A g q.base)
    (kk : ∀ (H1 : Heap) (ls1 : Array Slot) (locs1 : List Loc), gm_P g n' rf' im' lm' H1 → gm_lv g ls1 vs' → vs'.length = gm_ml M → n0 ≤ n' → (gm_nc M = 0 → n' = n0) → (∀ q ∈ locs1, gm_A g q.base) → W p l e R s m args below meth c H1 locs1 (n' - n0) (gm_SL n' - gm_SL n0) Q (F0 m pc' ls1 (st'.map (gm_tr g)))) : W p l e R s m args below meth c H locs (n - n0) (gm_SL n - gm_SL n0) Q (F0 m pc ls (st.map (gm_tr g))) := by
  obtain ⟨hx, hb, hml, hown, hon, hts, hC, hs0, hi0, hin, hR, hmt⟩ := hK
  simp only [gm_lnb, decide_eq_true_eq] at hln
  subst hln
  simp only [gm_stp] at hs
  split at hs
  · rename_i t ht
    simp only [gm_ii] at hs
    split at hs
    · simp only [gm_cd, gm_nx, decide_eq_true_eq, Bool.not_eq_true', decide_eq_false_iff_not] at hs
      refine lv_icmp_lt hx hb hd (gm_j_spec ht) (fun h => ?_) (fun h => ?_)
      · rw [if_pos h] at hs
        cases hs
        exact kk H ls locs hP hv hvl hn hnc hlo
      · rw [if_neg h] at hs
        cases hs
        exact kk H ls locs hP hv hvl hn hnc hlo
    · cases hs
  · cases hs

theorem gs_if_icmp_ge {off : Int} (hK : gm_Ks g M n0 p R s m args meth c) (hd : decode (gm_b M) pc = .ok (.if_icmp .ge off, len)) (hln : gm_lnb (.if_icmp .ge off) len = true) (hs : gm_stp M (.if_icmp .ge off) pc vs st n rf im lm = some (.inl (pc', vs', st', n', rf', im', lm'))) (hP : gm_P g n rf im lm H) (hv : gm_lv g ls vs) (hvl : vs.length = gm_ml M) (hn : n0 ≤ n) (hnc : gm_nc M = 0 → n = n0) (hlo : ∀ q ∈ locs, gm_A g q.base)
    (kk : ∀ (H1 : Heap) (ls1 : Array Slot) (locs1 : List Loc), gm_P g n' rf' im' lm' H1 → gm_lv g ls1 vs' → vs'.length = gm_ml M → n0 ≤ n' → (gm_nc M = 0 → n' = n0) → (∀ q ∈ locs1, gm_A g q.base) → W p l e R s m args below meth c H1 locs1 (n' - n0) (gm_SL n' - gm_SL n0) Q (F0 m pc' ls1 (st'.map (gm_tr g)))) : W p l e R s m args below meth c H locs (n - n0) (gm_SL n - gm_SL n0) Q (F0 m pc ls (st.map (gm_tr g))) := by
  obtain ⟨hx, hb, hml, hown, hon, hts, hC, hs0, hi0, hin, hR, hmt⟩ := hK
  simp only [gm_lnb, decide_eq_true_eq] at hln
  subst hln
  simp only [gm_stp] at hs
  split at hs
  · rename_i t ht
    simp only [gm_ii] at hs
    split at hs
    · simp only [gm_cd, gm_nx, decide_eq_true_eq, Bool.not_eq_true', decide_eq_false_iff_not] at hs
      refine lv_icmp_ge hx hb hd (gm_j_spec ht) (fun h => ?_) (fun h => ?_)
      · rw [if_pos h] at hs
        cases hs
        exact kk H ls locs hP hv hvl hn hnc hlo
      · rw [if_neg h] at hs
        cases hs
        exact kk H ls locs hP hv hvl hn hnc hlo
    · cases hs
  · cases hs

theorem gs_if_icmp_gt {off : Int} (hK : gm_Ks g M n0 p R s m args meth c) (hd : decode (gm_b M) pc = .ok (.if_icmp .gt off, len)) (hln : gm_lnb (.if_icmp .gt off) len = true) (hs : gm_stp M (.if_icmp .gt off) pc vs st n rf im lm = some (.inl (pc', vs', st', n', rf', im', lm'))) (hP : gm_P g n rf im lm H) (hv : gm_lv g ls vs) (hvl : vs.length = gm_ml M) (hn : n0 ≤ n) (hnc : gm_nc M = 0 → n = n0) (hlo : ∀ q ∈ locs, gm_A g q.base)
    (kk : ∀ (H1 : Heap) (ls1 : Array Slot) (locs1 : List Loc), gm_P g n' rf' im' lm' H1 → gm_lv g ls1 vs' → vs'.length = gm_ml M → n0 ≤ n' → (gm_nc M = 0 → n' = n0) → (∀ q ∈ locs1, gm_A g q.base) → W p l e R s m args below meth c H1 locs1 (n' - n0) (gm_SL n' - gm_SL n0) Q (F0 m pc' ls1 (st'.map (gm_tr g)))) : W p l e R s m args below meth c H locs (n - n0) (gm_SL n - gm_SL n0) Q (F0 m pc ls (st.map (gm_tr g))) := by
  obtain ⟨hx, hb, hml, hown, hon, hts, hC, hs0, hi0, hin, hR, hmt⟩ := hK
  simp only [gm_lnb, decide_eq_true_eq] at hln
  subst hln
  simp only [gm_stp] at hs
  split at hs
  · rename_i t ht
    simp only [gm_ii] at hs
    split at hs
    · simp only [gm_cd, gm_nx, decide_eq_true_eq, Bool.not_eq_true', decide_eq_false_iff_not] at hs
      refine lv_icmp_gt hx hb hd (gm_j_spec ht) (fun h => ?_) (fun h => ?_)
      · rw [if_pos h] at hs
        cases hs
        exact kk H ls locs hP hv hvl hn hnc hlo
      · rw [if_neg h] at hs
        cases hs
        exact kk H ls locs hP hv hvl hn hnc hlo
    · cases hs
  · cases hs

theorem gs_if_icmp_le {off : Int} (hK : gm_Ks g M n0 p R s m args meth c) (hd : decode (gm_b M) pc = .ok (.if_icmp .le off, len)) (hln : gm_lnb (.if_icmp .le off) len = true) (hs : gm_stp M (.if_icmp .le off) pc vs st n rf im lm = some (.inl (pc', vs', st', n', rf', im', lm'))) (hP : gm_P g n rf im lm H) (hv : gm_lv g ls vs) (hvl : vs.length = gm_ml M) (hn : n0 ≤ n) (hnc : gm_nc M = 0 → n = n0) (hlo : ∀ q ∈ locs, gm_A g q.base)
    (kk : ∀ (H1 : Heap) (ls1 : Array Slot) (locs1 : List Loc), gm_P g n' rf' im' lm' H1 → gm_lv g ls1 vs' → vs'.length = gm_ml M → n0 ≤ n' → (gm_nc M = 0 → n' = n0) → (∀ q ∈ locs1, gm_A g q.base) → W p l e R s m args below meth c H1 locs1 (n' - n0) (gm_SL n' - gm_SL n0) Q (F0 m pc' ls1 (st'.map (gm_tr g)))) : W p l e R s m args below meth c H locs (n - n0) (gm_SL n - gm_SL n0) Q (F0 m pc ls (st.map (gm_tr g))) := by
  obtain ⟨hx, hb, hml, hown, hon, hts, hC, hs0, hi0, hin, hR, hmt⟩ := hK
  simp only [gm_lnb, decide_eq_true_eq] at hln
  subst hln
  simp only [gm_stp] at hs
  split at hs
  · rename_i t ht
    simp only [gm_ii] at hs
    split at hs
    · simp only [gm_cd, gm_nx, decide_eq_true_eq, Bool.not_eq_true', decide_eq_false_iff_not] at hs
      refine lv_icmp_le hx hb hd (gm_j_spec ht) (fun h => ?_) (fun h => ?_)
      · rw [if_pos h] at hs
        cases hs
        exact kk H ls locs hP hv hvl hn hnc hlo
      · rw [if_neg h] at hs
        cases hs
        exact kk H ls locs hP hv hvl hn hnc hlo
    · cases hs
  · cases hs

theorem gs_tableswitch {dd lo hi : Int} {offs : Array Int} (hK : gm_Ks g M n0 p R s m args meth c) (hd : decode (gm_b M) pc = .ok (.tableswitch dd lo hi offs, len)) (hln : gm_lnb (.tableswitch dd lo hi offs) len = true) (hs : gm_stp M (.tableswitch dd lo hi offs) pc vs st n rf im lm = some (.inl (pc', vs', st', n', rf', im', lm'))) (hP : gm_P g n rf im lm H) (hv : gm_lv g ls vs) (hvl : vs.length = gm_ml M) (hn : n0 ≤ n) (hnc : gm_nc M = 0 → n = n0) (hlo : ∀ q ∈ locs, gm_A g q.base)
    (kk : ∀ (H1 : Heap) (ls1 : Array Slot) (locs1 : List Loc), gm_P g n' rf' im' lm' H1 → gm_lv g ls1 vs' → vs'.length = gm_ml M → n0 ≤ n' → (gm_nc M = 0 → n' = n0) → (∀ q ∈ locs1, gm_A g q.base) → W p l e R s m args below meth c H1 locs1 (n' - n0) (gm_SL n' - gm_SL n0) Q (F0 m pc' ls1 (st'.map (gm_tr g)))) : W p l e R s m args below meth c H locs (n - n0) (gm_SL n - gm_SL n0) Q (F0 m pc ls (st.map (gm_tr g))) := by
  obtain ⟨hx, hb, hml, hown, hon, hts, hC, hs0, hi0, hin, hR, hmt⟩ := hK
  simp only [gm_stp, gm_i] at hs
  split at hs
  · split at hs
    · rename_i h0
      simp only [gm_jm] at hs
      split at hs
      · rename_i t ht
        unfold gm_nx at hs
        cases hs
        exact lv_tableOut hx hb hd h0 (gm_j_spec ht) (kk H ls locs hP hv hvl hn hnc hlo)
      · cases hs
    · rename_i h0
      split at hs
      · rename_i off hoff
        simp only [gm_jm] at hs
        split at hs
        · rename_i t ht
          unfold gm_nx at hs
          cases hs
          exact lv_tableIn hx hb hd (fun h => h0 (Or.inl h)) (fun h => h0 (Or.inr h)) hoff (gm_j_spec ht) (kk H ls locs hP hv hvl hn hnc hlo)
        · cases hs
      · cases hs
  · cases hs

end GMS
