/-! reads and writes of the made cells -/
theorem gm_lay_good (C : String) (T : u_T) (k : Nat) : goodWord (u_lay C T k) = true := by
  unfold u_lay
  split <;> rfl
theorem gm_uws_T {C : String} {T : u_T} {N : Nat} (h : ∀ w ∈ u_ws C T N, w ∈ lw_tbl) : ∀ w ∈ u_ws C T N, w ∈ gm_T := by
  intro w hw
  refine gm_T_in (h w hw) ?_
  unfold u_ws at hw
  obtain ⟨k, -, rfl⟩ := List.mem_map.mp hw
  exact gm_lay_good C T k
theorem gm_cls (ci : Nat) (q : vw_C) (h : vwCl[ci]? = some q) : (∀ w ∈ u_ws q.1 q.2.1 q.2.2, w ∈ gm_T) ∧ ∃ ty0 : Nat → FieldType, (∀ k, k < q.2.2 → parseFieldDescriptor (q.2.1 k).2.2.1 = some (ty0 k)) ∧ ∀ a, a < q.2.2 → ∀ b, b < q.2.2 → a ≠ b → (q.2.1 a).2.1 ≠ (q.2.1 b).2.1 := by
  match ci with
  | 0 => cases h; exact ⟨gm_uws_T inX0, tyX0, tyX0_ok, nmX0⟩
  | 1 => cases h; exact ⟨gm_uws_T inX1, tyX1, tyX1_ok, nmX1⟩
  | 2 => cases h; exact ⟨gm_uws_T inX2, tyX2, tyX2_ok, nmX2⟩
  | 3 => cases h; exact ⟨gm_uws_T inX3, tyX3, tyX3_ok, nmX3⟩
  | 4 => cases h; exact ⟨gm_uws_T inX4, tyX4, tyX4_ok, nmX4⟩
  | 5 => cases h; exact ⟨gm_uws_T inX5, tyX5, tyX5_ok, nmX5⟩
  | 6 => cases h; exact ⟨gm_uws_T inX6, tyX6, tyX6_ok, nmX6⟩
  | 7 => cases h; exact ⟨gm_uws_T inX7, tyX7, tyX7_ok, nmX7⟩
  | 8 => cases h; exact ⟨gm_uws_T inX8, tyX8, tyX8_ok, nmX8⟩
  | 9 => cases h; exact ⟨gm_uws_T inX10, tyX10, tyX10_ok, nmX10⟩
  | 10 => cases h; exact ⟨gm_uws_T inX11, tyX11, tyX11_ok, nmX11⟩
  | 11 => cases h; exact ⟨gm_uws_T inX12, tyX12, tyX12_ok, nmX12⟩
  | n + 12 => cases h
section GMC
variable {g : gm_G} {n : Nat} {rf : gm_R} {im : gm_I} {lm : gm_L} {H : Heap}
theorem gm_ce_congr {rf' : gm_R} {im' : gm_I} {lm' : gm_L} {a : Nat} (h1 : rf' a = rf a) (h2 : im' a = im a) (h3 : lm' a = lm a) : gm_ce g rf' im' lm' a = gm_ce g rf im lm a := by
  have hf : ∀ ci k, gm_fv g rf' im' lm' a ci k = gm_fv g rf im lm a ci k := fun ci k => by unfold gm_fv; rw [h1, h2, h3]
  unfold gm_ce
  rw [h1, h2, h3]
  split <;> first | rfl | (congr 2; exact List.map_congr_left (fun k _ => hf _ k))
theorem gm_up_ne {α : Type} {f : Nat → Nat → α} {o k a : Nat} {v : α} (h : a ≠ o) : gm_up f o k v a = f a := by
  funext b
  simp [gm_up, h]
theorem gm_lay_get {a : Nat} {e : Nat × Nat} (h : gm_LAY[a]? = some e) : gm_LAY.getD a (9, 0) = e := by
  rw [List.getD_eq_getElem?_getD, h]
  rfl
theorem gm_ce_0 {a ci : Nat} (h : gm_LAY[a]? = some (0, ci)) : gm_ce g rf im lm a = .inr (ci, (List.range (gm_FY.getD ci []).length).map (gm_fv g rf im lm a ci)) := by
  unfold gm_ce; rw [gm_lay_get h]; rfl
theorem gm_ce_1 {a z : Nat} (h : gm_LAY[a]? = some (1, z)) : gm_ce g rf im lm a = .inl (g.2.1.1, z, .inl (im a)) := by
  unfold gm_ce; rw [gm_lay_get h]; rfl
theorem gm_ce_2 {a z : Nat} (h : gm_LAY[a]? = some (2, z)) : gm_ce g rf im lm a = .inl (g.2.1.2.1, z, .inl (im a)) := by
  unfold gm_ce; rw [gm_lay_get h]; rfl
theorem gm_ce_3 {a z : Nat} (h : gm_LAY[a]? = some (3, z)) : gm_ce g rf im lm a = .inl (g.2.1.2.2.1, z, .inl (im a)) := by
  unfold gm_ce; rw [gm_lay_get h]; rfl
theorem gm_ce_4 {a z : Nat} (h : gm_LAY[a]? = some (4, z)) : gm_ce g rf im lm a = .inl (g.2.1.2.2.2.1, z, .inr (.inl (lm a))) := by
  unfold gm_ce; rw [gm_lay_get h]; rfl
theorem gm_ce_5 {a z : Nat} (h : gm_LAY[a]? = some (5, z)) : gm_ce g rf im lm a = .inl (g.2.1.2.2.2.2, z, .inr (.inr (.inr (.inr (fun j => (rf a j).map (gm_ad g)))))) := by
  unfold gm_ce; rw [gm_lay_get h]; rfl
theorem gm_P.at (hP : gm_P g n rf im lm H) {a : Nat} (ha : a < n) : va_at (gm_D g) vwCl (gm_bs g + a, gm_ce g rf im lm a) H := hP.1 a ha
theorem gm_P.small (hP : gm_P g n rf im lm H) {a : Nat} (ha : a < n) : gm_ad g a = gm_bs g + a := by
  have h1 := hP.2.2.1
  rw [gm_LAY_len] at h1
  unfold gm_ad
  rw [if_pos (by omega)]
theorem gm_P.wr {H1 : Heap} {o : Nat} {rf' : gm_R} {im' : gm_I} {lm' : gm_L} (hP : gm_P g n rf im lm H) (ho : o < n) (hz : H1.size = H.size) (oq : ∀ q : Nat, q ≠ gm_bs g + o → H1[q]? = H[q]?)
    (hnew : va_at (gm_D g) vwCl (gm_bs g + o, gm_ce g rf' im' lm' o) H1) (hsame : ∀ a, a ≠ o → rf' a = rf a ∧ im' a = im a ∧ lm' a = lm a) : gm_P g n rf' im' lm' H1 := by
  obtain ⟨h1, h2, h3, h4, h5, h6, h7, h8⟩ := hP
  have hn := h3
  rw [gm_LAY_len] at hn
  refine ⟨fun a ha => ?_, hz.trans h2, h3, fun q hq => (oq q (by omega)).trans (h4 q hq), ?_, fun j hj => ?_, fun j l hj i hi => ?_, fun j l hj i hi => ?_⟩
  · by_cases hao : a = o
    · rw [hao]; exact hnew
    · obtain ⟨e1, e2, e3⟩ := hsame a hao
      rw [gm_ce_congr e1 e2 e3]
      exact (h1 a ha).kept (oq _ (by show gm_bs g + a ≠ gm_bs g + o; omega))
  · rw [(hsame 2000 (by omega)).2.1]; exact h5
  · rw [(hsame 1000 (by omega)).2.1]; exact h6 j hj
  · rw [(hsame (1001 + j) (by omega)).2.1]; exact h7 j l hj i hi
  · rw [(hsame (1020 + j) (by omega)).2.1]; exact h8 j l hj i hi
theorem gm_arr_st {cA : ClassId} {z i : Nat} {f : Nat → Int32} {H1 : Heap} {a : Nat} {x : Int32} (e : H1[a]? = some ((vp_cell cA (z, .inl f)).setSlot i (.int x))) : H1[a]? = some (vp_cell cA (z, .inl (fun j => if j = i then x else f j))) := by
  rw [e, vp_cell_i, vp_cell_i, arrV_store]
  congr 2
  funext q
  by_cases hq : q = i <;> simp [updV, hq]
theorem gm_arr_stL {cA : ClassId} {z i : Nat} {f : Nat → Int64} {H1 : Heap} {a : Nat} {x : Int64} (e : H1[a]? = some ((vp_cell cA (z, .inr (.inl f))).setSlot i (.long x))) : H1[a]? = some (vp_cell cA (z, .inr (.inl (fun j => if j = i then x else f j)))) := by
  rw [e, vp_cell_l, vp_cell_l, arrV_store]
  congr 2
  funext q
  by_cases hq : q = i <;> simp [updV, hq]
theorem gm_up_row {α : Type} {f : Nat → Nat → α} {o k : Nat} {v : α} : gm_up f o k v o = fun j => if j = k then v else f o j := by
  funext b
  simp [gm_up]
end GMC
section GMW
variable {p : Program} {l : Launch} {e : Env} {R : Room} {s : State} {m : MethodId} {args : Array Value} {below : List Frame} {meth : Method} {c : Code} {H : Heap} {locs : List Loc} {cells slots : Nat} {Q : State → Prop}
variable {cc : ByteArray} {pc : Nat} {ls : Array Slot} {rest : List Value} {g : gm_G} {n : Nat} {rf : gm_R} {im : gm_I} {lm : gm_L}
theorem gm_in_spec {i : Int32} {z : Nat} (h : gm_in i z = true) : ¬ (i < 0 ∨ z ≤ i.toNatClampNeg) := by
  unfold gm_in at h
  simpa [not_or] using h
theorem gw_iast (hx : p.tables.exec = Jvm.exec) (hb : c.code = cc) (hK : va_K (gm_D g) vwCl (gm_ty g) s) (hP : gm_P g n rf im lm H) {a z : Nat} (ha : a < n) (hl : gm_LAY[a]? = some (1, z)) {i x : Int32} (hi : gm_in i z = true) (hlo : ∀ q ∈ locs, gm_A g q.base) (hdg : decode cc pc = .ok (.iastore, 1))
    (kk : ∀ (H1 : Heap) (locs1 : List Loc), gm_P g n rf (gm_up im a i.toNatClampNeg x) lm H1 → (∀ q ∈ locs1, gm_A g q.base) → W p l e R s m args below meth c H1 locs1 cells slots Q (F0 m (pc + 1) ls rest)) : W p l e R s m args below meth c H locs cells slots Q (F0 m pc ls (.int x :: .int i :: .ref (gm_ad g a) :: rest)) := by
  have hat := hP.at ha
  rw [gm_ce_1 hl] at hat
  have hat : H[gm_bs g + a]? = some (vp_cell g.2.1.1 (z, .inl (im a))) := hat
  rw [hP.small ha]
  refine W.iast hx hb hat ((hK.2 0 _ rfl).1 z (fun j => .int (im a j))) (fun q => by cases q) (by show ¬ (i < 0 ∨ (arrV _ _ _).slots.size ≤ _); rw [arrV_size]; exact gm_in_spec hi) rfl rfl hdg fun H1 e1 z1 oq => ?_
  refine kk H1 _ (hP.wr ha z1 oq ?_ (fun b hb => ⟨rfl, gm_up_ne hb, rfl⟩)) ?_
  · rw [gm_ce_1 hl, gm_up_row]
    exact gm_arr_st e1
  · intro q hq
    rcases List.mem_append.mp hq with h | h
    · exact hlo q h
    · rw [List.mem_singleton] at h
      subst h
      exact Nat.le_add_right _ _
theorem gw_bast (hx : p.tables.exec = Jvm.exec) (hb : c.code = cc) (hK : va_K (gm_D g) vwCl (gm_ty g) s) (hP : gm_P g n rf im lm H) {a z : Nat} (ha : a < n) (hl : gm_LAY[a]? = some (2, z)) {i x : Int32} (hi : gm_in i z = true) (hlo : ∀ q ∈ locs, gm_A g q.base) (hdg : decode cc pc = .ok (.bastore, 1))
    (kk : ∀ (H1 : Heap) (locs1 : List Loc), gm_P g n rf (gm_up im a i.toNatClampNeg x.toInt8.toInt32) lm H1 → (∀ q ∈ locs1, gm_A g q.base) → W p l e R s m args below meth c H1 locs1 cells slots Q (F0 m (pc + 1) ls rest)) : W p l e R s m args below meth c H locs cells slots Q (F0 m pc ls (.int x :: .int i :: .ref (gm_ad g a) :: rest)) := by
  have hat := hP.at ha
  rw [gm_ce_2 hl] at hat
  have hat : H[gm_bs g + a]? = some (vp_cell g.2.1.2.1 (z, .inl (im a))) := hat
  rw [hP.small ha]
  refine W.bast hx hb hat ((hK.2 1 _ rfl).1 z (fun j => .int (im a j))) (fun q => by cases q) (by show ¬ (i < 0 ∨ (arrV _ _ _).slots.size ≤ _); rw [arrV_size]; exact gm_in_spec hi) rfl rfl hdg fun H1 e1 z1 oq => ?_
  refine kk H1 _ (hP.wr ha z1 oq ?_ (fun b hb => ⟨rfl, gm_up_ne hb, rfl⟩)) ?_
  · rw [gm_ce_2 hl, gm_up_row]
    exact gm_arr_st e1
  · intro q hq
    rcases List.mem_append.mp hq with h | h
    · exact hlo q h
    · rw [List.mem_singleton] at h
      subst h
      exact Nat.le_add_right _ _
theorem gw_zast (hx : p.tables.exec = Jvm.exec) (hb : c.code = cc) (hK : va_K (gm_D g) vwCl (gm_ty g) s) (hP : gm_P g n rf im lm H) {a z : Nat} (ha : a < n) (hl : gm_LAY[a]? = some (3, z)) {i x : Int32} (hi : gm_in i z = true) (hx01 : x = 0 ∨ x = 1) (hlo : ∀ q ∈ locs, gm_A g q.base) (hdg : decode cc pc = .ok (.bastore, 1))
    (kk : ∀ (H1 : Heap) (locs1 : List Loc), gm_P g n rf (gm_up im a i.toNatClampNeg x) lm H1 → (∀ q ∈ locs1, gm_A g q.base) → W p l e R s m args below meth c H1 locs1 cells slots Q (F0 m (pc + 1) ls rest)) : W p l e R s m args below meth c H locs cells slots Q (F0 m pc ls (.int x :: .int i :: .ref (gm_ad g a) :: rest)) := by
  have hat := hP.at ha
  rw [gm_ce_3 hl] at hat
  have hat : H[gm_bs g + a]? = some (vp_cell g.2.1.2.2.1 (z, .inl (im a))) := hat
  rw [hP.small ha]
  refine W.zast hx hb hat ((hK.2 2 _ rfl).1 z (fun j => .int (im a j))) (fun q => by cases q) (by show ¬ (i < 0 ∨ (arrV _ _ _).slots.size ≤ _); rw [arrV_size]; exact gm_in_spec hi) rfl rfl hdg fun H1 e1 z1 oq => ?_
  refine kk H1 _ (hP.wr ha z1 oq ?_ (fun b hb => ⟨rfl, gm_up_ne hb, rfl⟩)) ?_
  · rw [gm_ce_3 hl, gm_up_row]
    refine gm_arr_st ?_
    rw [e1]
    rcases hx01 with h | h <;> subst h <;> rfl
  · intro q hq
    rcases List.mem_append.mp hq with h | h
    · exact hlo q h
    · rw [List.mem_singleton] at h
      subst h
      exact Nat.le_add_right _ _
theorem gw_last (hx : p.tables.exec = Jvm.exec) (hb : c.code = cc) (hK : va_K (gm_D g) vwCl (gm_ty g) s) (hP : gm_P g n rf im lm H) {a z : Nat} (ha : a < n) (hl : gm_LAY[a]? = some (4, z)) {i : Int32} {x : Int64} (hi : gm_in i z = true) (hlo : ∀ q ∈ locs, gm_A g q.base) (hdg : decode cc pc = .ok (.lastore, 1))
    (kk : ∀ (H1 : Heap) (locs1 : List Loc), gm_P g n rf im (gm_up lm a i.toNatClampNeg x) H1 → (∀ q ∈ locs1, gm_A g q.base) → W p l e R s m args below meth c H1 locs1 cells slots Q (F0 m (pc + 1) ls rest)) : W p l e R s m args below meth c H locs cells slots Q (F0 m pc ls (.long x :: .int i :: .ref (gm_ad g a) :: rest)) := by
  have hat := hP.at ha
  rw [gm_ce_4 hl] at hat
  have hat : H[gm_bs g + a]? = some (vp_cell g.2.1.2.2.2.1 (z, .inr (.inl (lm a)))) := hat
  rw [hP.small ha]
  refine W.last hx hb hat ((hK.2 3 _ rfl).1 z (fun j => .long (lm a j))) (fun q => by cases q) (by show ¬ (i < 0 ∨ (arrV _ _ _).slots.size ≤ _); rw [arrV_size]; exact gm_in_spec hi) rfl rfl hdg fun H1 e1 z1 oq => ?_
  refine kk H1 _ (hP.wr ha z1 oq ?_ (fun b hb => ⟨rfl, rfl, gm_up_ne hb⟩)) ?_
  · rw [gm_ce_4 hl, gm_up_row]
    exact gm_arr_stL e1
  · intro q hq
    rcases List.mem_append.mp hq with h | h
    · exact hlo q h
    · rw [List.mem_singleton] at h
      subst h
      exact Nat.le_add_right _ _
end GMW
