/-! a run of the pure machine is a run of the true one -/
theorem gm_callW {p : Program} {l : Launch} {e : Env} {R : Room} {s : State} {m : MethodId} {args : Array Value} {below : List Frame} {meth : Method} {c : Code} {H : Heap} {locs : List Loc} {cells slots mc ms pc : Nat} {ls : Array Slot} {st0 rest : List Value} {Q : State → Prop} {v : Option Value} {B : State → Prop} {free : Addr → Prop} {Qa : State → Outcome → State → Prop} (hr : va_Run p l e R s m args below meth c H locs cells slots mc ms (F0 m pc ls st0) rest Qa free) (hQ : ∀ st o t, Qa st o t → o = .returned v ∧ B t)
    (kk : ∀ (t : State) (L : List Loc), B t → (∀ q ∈ L, free q.base) → W p l e R s m args below meth c t.heap (locs ++ L) (cells + mc) (slots + ms) Q (F0 m (pc + 3) ls (v.toList ++ rest))) : W p l e R s m args below meth c H locs cells slots Q (F0 m pc ls st0) := by
  intro T hT X
  obtain ⟨v1, st₀, t, T', L, h0, X', hL, e1, e2, hq, st⟩ := hr T hT X
  obtain ⟨hv, hB⟩ := hQ _ _ _ hq
  cases hv
  obtain ⟨t2, a1, b1⟩ := kk t L hB hL T' e1 X'
  exact ⟨t2, st t2 a1, b1⟩
theorem gm_lg_map (g : gm_G) (as : List Value) : lg_sl (as.map (gm_tr g)) = (lg_sl as).map (fun s => match s with
    | .val v => .val (gm_tr g v)
    | s => s) := by
  unfold lg_sl
  rw [List.flatMap_map, List.map_flatMap]
  congr 1
  funext v
  rw [gm_tr_cat]
  split <;> rfl
theorem gm_lg_len (g : gm_G) (as : List Value) : (lg_sl (as.map (gm_tr g))).length = (lg_sl as).length := by rw [gm_lg_map, List.length_map]
theorem gm_ent_len {N : gm_M} {as : List Value} (h : (lg_sl as).length ≤ gm_ml N) : (gm_ent N as).length = gm_ml N := by
  unfold gm_ent
  rw [List.length_append, List.length_map, List.length_replicate]
  omega
theorem gm_lv_ent (g : gm_G) {N : gm_M} {as : List Value} (h : (lg_sl as).length ≤ gm_ml N) : gm_lv g ((lg_sl (as.map (gm_tr g)) ++ List.replicate (gm_ml N - (lg_sl (as.map (gm_tr g))).length) Slot.unset).toArray) (gm_ent N as) := by
  have h1 := lv_entry (as.map (gm_tr g)) (n := gm_ml N) (by rw [gm_lg_len]; exact h)
  refine ⟨by rw [gm_ent_len h]; exact h1.1, h1.2.1, fun q hq => ?_⟩
  obtain ⟨i, x⟩ := q
  obtain ⟨v, hv, hvn, rfl⟩ := gm_tl_mem.mp hq
  unfold gm_ent at hv
  by_cases hi : i < (lg_sl as).length
  · rw [List.getElem?_append_left (by rw [List.length_map]; exact hi), List.getElem?_map] at hv
    cases hs : (lg_sl as)[i]? with
    | none => rw [hs] at hv; cases hv
    | some s =>
      rw [hs] at hv
      show (lg_sl (as.map (gm_tr g)) ++ _).toArray[i]? = _
      rw [List.getElem?_toArray, List.getElem?_append_left (by rw [gm_lg_len]; exact hi), gm_lg_map, List.getElem?_map, hs]
      cases s with
      | val u => cases hv; rfl
      | unset => cases hv; exact absurd rfl hvn
      | second => cases hv; exact absurd rfl hvn
  · rw [List.getElem?_append_right (by rw [List.length_map]; omega), List.getElem?_replicate] at hv
    split at hv
    · cases hv; exact absurd rfl hvn
    · cases hv
/-- what a method's contract asks and gives, by a run -/
def gm_Pc (g : gm_G) (as : List Value) (n : Nat) (rf : gm_R) (im : gm_I) (lm : gm_L) : Array Value → State → Prop := fun a U => a = (as.map (gm_tr g)).toArray ∧ gm_P g n rf im lm U.heap ∧ gm_Cx g U
def gm_Qc (g : gm_G) (v : Option Value) (n : Nat) (rf : gm_R) (im : gm_I) (lm : gm_L) : Array Value → State → Outcome → State → Prop := fun _ _ o t => o = .returned (v.map (gm_tr g)) ∧ gm_P g n rf im lm t.heap
theorem gm_blind (g : gm_G) (as : List Value) (n : Nat) (rf : gm_R) (im : gm_I) (lm : gm_L) : FrameBlind (gm_Pc g as n rf im lm) := fun a U fr mk h => ⟨h.1, h.2.1, gm_Cx.same (u := U) (U := U.calling fr mk a) rfl h.2.2⟩
/-- what the next steps need of a method's run -/
def gm_Go (l : Launch) (g : gm_G) (f : Nat) : Prop := ∀ (k : Nat) (M : gm_M) (pc : Nat) (vs st : List Value) (n : Nat) (rf : gm_R) (im : gm_I) (lm : gm_L) (v : Option Value) (n' : Nat) (rf' : gm_R) (im' : gm_I) (lm' : gm_L), gm_MT[k]? = some M → gm_run f k pc vs st n rf im lm = some (v, n', rf', im', lm') →
  ∀ (p : Program) (e : Env) (R : Room) (s : State) (m : MethodId) (args : Array Value) (below : List Frame) (meth : Method) (c : Code) (H : Heap) (locs : List Loc) (ls : Array Slot) (Q : State → Prop) (n0 : Nat), gm_Ks g M n0 p R s m args meth c → gm_P g n rf im lm H → gm_lv g ls vs → vs.length = gm_ml M → n0 ≤ n → (gm_nc M = 0 → n = n0) → (∀ q ∈ locs, gm_A g q.base) →
  (∀ (H9 : Heap) (ls9 : Array Slot) (locs9 : List Loc) (pc9 : Nat) (st9 : List Value), gm_rt M pc9 v st9 → gm_P g n' rf' im' lm' H9 → (∀ q ∈ locs9, gm_A g q.base) → n0 ≤ n' → (gm_nc M = 0 → n' = n0) → W p l e R s m args below meth c H9 locs9 (n' - n0) (gm_SL n' - gm_SL n0) Q (F0 m pc9 ls9 st9)) →
  W p l e R s m args below meth c H locs (n - n0) (gm_SL n - gm_SL n0) Q (F0 m pc ls (st.map (gm_tr g)))
theorem gm_rt_nil {g : gm_G} {M : gm_M} {pc : Nat} {v : Option Value} {st : List Value} (h : gm_rt M pc v st) : st.map (gm_tr g) = st ∧ v.map (gm_tr g) = v := by
  rcases h with ⟨x, ty, rfl, rfl, -⟩ | ⟨x, rfl, rfl, -⟩ | ⟨rfl, rfl, -⟩ <;> exact ⟨rfl, rfl⟩
/-- a method's contract out of a run of its body -/
theorem gm_met {l : Launch} {g : gm_G} {f : Nat} (ih : gm_Go l g f) {k : Nat} {N : gm_M} {as : List Value} {n : Nat} {rf : gm_R} {im : gm_I} {lm : gm_L} {v : Option Value} {n' : Nat} {rf' : gm_R} {im' : gm_I} {lm' : gm_L} (hN : gm_MT[k]? = some N) (hk : k ≠ gm_LK) (hma : (gm_y N).cls ≠ "java/lang/Math") (hl : (lg_sl as).length ≤ gm_ml N) (hr : gm_run f k 0 (gm_ent N as) [] n rf im lm = some (v, n', rf', im', lm')) (hn : n' = n + gm_nc N) (hs0 : gm_nc N ≠ 0 → n = gm_s0 N) :
    Met l (gm_y N) (gm_ws N) (gm_room N) (gm_Pc g as n rf im lm) (gm_Qc g v n' rf' im' lm') (gm_nc N) (gm_ns N) (gm_A g) := by
  obtain ⟨m1, m2, m3, m4, m5, m6⟩ := gm_meth hN hk
  have hpl : plainName (gm_y N).cls = true := m2.resolve_right hma
  have hms := List.all_eq_true.mp gm_MS2_ok N (List.mem_of_getElem? hN)
  simp only [decide_eq_true_eq] at hms
  have hsl : gm_SL n' - gm_SL n = gm_ns N := by
    by_cases h0 : gm_nc N = 0
    · rw [hn, h0, hms, h0]; simp
    · rw [hn, hms, hs0 h0]
  refine Met.ofW (cc := gm_b N) (maxL := gm_ml N) (ret := gm_ret N) hpl rfl ?_
  intro p e s m args below meth c s₁ B hml hPc
  obtain ⟨rfl, hP, hC⟩ := hPc
  have hts : ∀ w ∈ gm_ws N, w.before (as.map (gm_tr g)).toArray s = true := atoms_spec (ws := gm_ws N) B.pre
  have hlocks := B.notSynchronized
  have hret := B.returns
  have key := ih k N 0 (gm_ent N as) [] n rf im lm v n' rf' im' lm' hN hr p e (gm_room N) s m (as.map (gm_tr g)).toArray below meth c s.heap [] ((lg_sl (as.map (gm_tr g)) ++ List.replicate (gm_ml N - (lg_sl (as.map (gm_tr g))).length) Slot.unset).toArray) (MQ below (gm_Qc g v n' rf' im' lm') (as.map (gm_tr g)).toArray s (gm_nc N) (gm_ns N) (gm_A g)) n
    ⟨B.exec, B.bytes, hml, findClass_of_methodNamed B.named, m6, fun w hw => hts w (List.mem_cons_of_mem _ hw), hC, ⟨hP.2.1, hP.2.2.2.1⟩, hs0, fun h => (name_of_methodNamed B.named B.method).1.trans h, ⟨Nat.le_refl _, Nat.le_refl _, Nat.le_refl _, Nat.le_refl _⟩, List.mem_of_getElem? hN⟩
    hP (gm_lv_ent g hl) (gm_ent_len hl) (Nat.le_refl _) (fun _ => rfl) (fun q hq => by cases hq) ?_
  · rw [Nat.sub_self, Nat.sub_self] at key
    rw [lg_entry_eq]
    exact key
  · intro H9 ls9 locs9 pc9 st9 hrt hP9 hlo9 h1 h2
    have e1 : n' - n = gm_nc N := by omega
    rw [e1, hsl]
    obtain ⟨-, hvt⟩ := gm_rt_nil (g := g) hrt
    rcases hrt with ⟨x, ty, rfl, rfl, hty, hnw, hd⟩ | ⟨x, rfl, rfl, hty, hd⟩ | ⟨rfl, rfl, hty, hd⟩
    · exact W.zret B.exec B.bytes (hret.trans hty) hnw (fun t ht _ => ⟨rfl, by rw [ht]; exact hP9⟩) hlo9 hd hlocks
    · exact W.lret B.exec B.bytes (hret.trans hty) (fun t ht _ => ⟨rfl, by rw [ht]; exact hP9⟩) hlo9 hd hlocks
    · exact W.vret B.exec B.bytes (hret.trans hty) (fun t ht _ => ⟨rfl, by rw [ht]; exact hP9⟩) hlo9 hd hlocks
