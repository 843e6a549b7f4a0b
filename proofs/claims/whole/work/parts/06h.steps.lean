/-! one instruction of the pure machine: rows, new cells, constants, Math, arraycopy, Object(): written by wip/whole/gen_step.py -/
section GMV
variable {p : Program} {l : Launch} {e : Env} {R : Room} {s : State} {m : MethodId} {args : Array Value} {below : List Frame} {meth : Method} {c : Code} {H : Heap} {locs : List Loc} {cells slots : Nat} {Q : State → Prop}
variable {pc : Nat} {ls : Array Slot} {g : gm_G} {n n0 : Nat} {rf : gm_R} {im : gm_I} {lm : gm_L} {M : gm_M} {vs st : List Value} {cc : ByteArray} {rest : List Value}
variable {len pc' n' : Nat} {vs' st' : List Value} {rf' : gm_R} {im' : gm_I} {lm' : gm_L}
set_option maxRecDepth 100000 in
theorem gm_LK_ok : (gm_LAY.all fun e => decide (e.1 ≤ 5)) = true := by decide +kernel
theorem gm_one {a : Nat} {x : va_E} (h : va_at (gm_D g) vwCl (gm_bs g + a, x) H) : va_P (gm_D g) vwCl [(gm_bs g + a, x)] H := by
  intro j q hj
  match j with
  | 0 => cases hj; exact h
  | j + 1 => simp at hj
theorem gm_at_cases {a kd z : Nat} (h : gm_at im n a = some (kd, z)) : (a < n ∧ gm_LAY[a]? = some (kd, z)) ∨ (¬ a < n ∧ a = 1000 ∧ kd = 1 ∧ z = (im 2000 0).toNatClampNeg) ∨ (¬ a < n ∧ a = 1020 ∧ kd = 2 ∧ z = 160) ∨ (¬ a < n ∧ a = 1021 ∧ kd = 2 ∧ z = 9) ∨ (¬ a < n ∧ ∃ j l, a = 1001 + j ∧ j < 5 ∧ gm_SA[j]? = some l ∧ kd = 1 ∧ z = l.length) := by
  unfold gm_at at h
  split at h
  · exact Or.inl ⟨by assumption, h⟩
  · rename_i h0
    split at h
    · cases h; exact Or.inr (Or.inl ⟨h0, by assumption, rfl, rfl⟩)
    · split at h
      · cases h; exact Or.inr (Or.inr (Or.inl ⟨h0, by assumption, rfl, rfl⟩))
      · split at h
        · cases h; exact Or.inr (Or.inr (Or.inr (Or.inl ⟨h0, by assumption, rfl, rfl⟩)))
        · split at h
          · rename_i h1
            cases hl : gm_SA[a - 1001]? with
            | none => rw [hl] at h; cases h
            | some l =>
              rw [hl] at h
              cases h
              have hlt : a - 1001 < 5 := (List.getElem?_eq_some_iff.mp hl).1
              exact Or.inr (Or.inr (Or.inr (Or.inr ⟨h0, a - 1001, l, by omega, hlt, hl, rfl, rfl⟩)))
          · cases h
theorem gm_sl_n (hC : gm_Cx g s) (hP : gm_P g n rf im lm H) : (im 2000 0).toNatClampNeg = gm_sl g := by
  rw [hP.2.2.2.2.1]
  have h : gm_sl g ≤ 3072 := hC.2.2.2.1
  show (Int32.ofNat (gm_sl g)).toNatClampNeg = gm_sl g
  exact nI_clamp (by omega)
theorem gm_H0S (hP : gm_P g n rf im lm H) (hC : gm_Cx g s) (hlo : ∀ q ∈ locs, gm_A g q.base) : va_S (gm_A g) (gm_H0 g) H locs := by
  have h0 : (gm_H0 g).size = gm_bs g := hC.2.2.2.2.1
  refine ⟨by rw [h0, hP.2.1]; omega, fun q hq _ => hP.2.2.2.1 q (by omega), hlo⟩
theorem gm_ad_old {a : Nat} (h : 1000 ≤ a) : gm_ad g a = gm_ao g a := by unfold gm_ad; rw [if_neg (by omega)]
theorem gm_notA {a : Nat} (h : a < gm_bs g) : ¬ gm_A g a := Nat.not_le.mpr h
theorem gm_sa_get {j : Nat} {l : List Int32} (h : gm_SA[j]? = some l) : gm_SA.getD j [] = l := by rw [List.getD_eq_getElem?_getD, h]; rfl
/-- a static row's cell -/
theorem gm_stat (hP : gm_P g n rf im lm H) (hC : gm_Cx g s) {j : Nat} (hj : j < 5) {x : List Int32} (hx : gm_SA[j]? = some x) : ∃ cell : Cell, H[gm_ao g (1001 + j)]? = some cell ∧ s.isArrayOf cell .int ∧ cell.vm ≠ .unknown ∧ x.length ≤ cell.slots.size ∧ cell.slots.size.toInt32 = Int32.ofNat x.length ∧ ∀ i, i < x.length → cell.slots[i]? = some (.int (im (1001 + j) i)) := by
  obtain ⟨cell, h1, h2, h3, h4, h5, h6, h7⟩ := (hC.2.2.2.2.2.1 j hj).2
  rw [gm_sa_get hx] at h4 h5 h6
  refine ⟨cell, ?_, h2, h3, h4, h5, fun i hi => ?_⟩
  · rw [hP.2.2.2.1 _ (Nat.not_le.mp h7)]; exact h1
  · rw [h6 i hi, hP.2.2.2.2.2.2.1 j x hx i hi]
/-- a text's bytes -/
theorem gm_text (hP : gm_P g n rf im lm H) (hC : gm_Cx g s) {j z : Nat} (hj : (j = 0 ∧ z = 160) ∨ (j = 1 ∧ z = 9)) : ∃ cell : Cell, H[gm_ao g (1020 + j)]? = some cell ∧ s.isArrayOf cell .byte ∧ cell.vm ≠ .unknown ∧ z ≤ cell.slots.size ∧ cell.slots.size.toInt32 = Int32.ofNat z ∧ ∀ i, i < z → cell.slots[i]? = some (.int (im (1020 + j) i)) := by
  obtain ⟨hS, -⟩ := hC.2.2.2.2.2.2.2.2.2.1
  rcases hj with ⟨rfl, rfl⟩ | ⟨rfl, rfl⟩
  · obtain ⟨cell, h1, h2, h3, h4, h5, h6, h7⟩ := (hS 0 (by decide)).2.2.2
    refine ⟨cell, ?_, h2, h3, h4, h5, fun i hi => ?_⟩
    · rw [hP.2.2.2.1 _ (Nat.not_le.mp h7)]; exact h1
    · rw [h6 i hi, hP.2.2.2.2.2.2.2 0 _ rfl i hi]; rfl
  · obtain ⟨cell, h1, h2, h3, h4, h5, h6, h7⟩ := (hS 1 (by decide)).2.2.2
    refine ⟨cell, ?_, h2, h3, h4, h5, fun i hi => ?_⟩
    · rw [hP.2.2.2.1 _ (Nat.not_le.mp h7)]; exact h1
    · rw [h6 i hi, hP.2.2.2.2.2.2.2 1 _ rfl i hi]; rfl
theorem gm_in_lt {i : Int32} {z : Nat} (h : gm_in i z = true) : i.toNatClampNeg < z := Nat.not_le.mp fun q => gm_in_spec h (Or.inr q)
theorem gm_in_cell {i : Int32} {z k : Nat} (h : gm_in i z = true) (hz : z ≤ k) : ¬ (i < 0 ∨ k ≤ i.toNatClampNeg) := by
  have h1 := gm_in_lt h
  have h2 := gm_in_spec h
  intro q
  rcases q with q | q
  · exact h2 (Or.inl q)
  · omega
theorem gm_ad_ne {a : Nat} (h : 1031 ≤ a ∨ a < 1030) : gm_tr g (.ref a) = .ref (gm_ad g a) := gm_tr_ref (by omega)

theorem gs_iaload (hK : gm_Ks g M n0 p R s m args meth c) (hd : decode (gm_b M) pc = .ok (.iaload, len)) (hln : gm_lnb (.iaload) len = true) (hs : gm_stp M (.iaload) pc vs st n rf im lm = some (.inl (pc', vs', st', n', rf', im', lm'))) (hP : gm_P g n rf im lm H) (hv : gm_lv g ls vs) (hvl : vs.length = gm_ml M) (hn : n0 ≤ n) (hnc : gm_nc M = 0 → n = n0) (hlo : ∀ q ∈ locs, gm_A g q.base)
    (kk : ∀ (H1 : Heap) (ls1 : Array Slot) (locs1 : List Loc), gm_P g n' rf' im' lm' H1 → gm_lv g ls1 vs' → vs'.length = gm_ml M → n0 ≤ n' → (gm_nc M = 0 → n' = n0) → (∀ q ∈ locs1, gm_A g q.base) → W p l e R s m args below meth c H1 locs1 (n' - n0) (gm_SL n' - gm_SL n0) Q (F0 m pc' ls1 (st'.map (gm_tr g)))) : W p l e R s m args below meth c H locs (n - n0) (gm_SL n - gm_SL n0) Q (F0 m pc ls (st.map (gm_tr g))) := by
  obtain ⟨hx, hb, hml, hown, hon, hts, hC, hs0, hi0, hin, hR, hmt⟩ := hK
  simp only [gm_lnb, decide_eq_true_eq] at hln
  subst hln
  simp only [gm_stp] at hs
  split at hs
  · rename_i i a r
    split at hs
    · rename_i z hz
      split at hs
      · rename_i hi
        unfold gm_nx at hs
        cases hs
        rw [List.map_cons, List.map_cons]
        rcases gm_at_cases hz with ⟨ha, hl⟩ | ⟨-, rfl, -, hz0⟩ | ⟨-, -, h, -⟩ | ⟨-, -, h, -⟩ | ⟨-, j, x, rfl, hj, hx9, -, rfl⟩
        · rw [gm_tr_ref (hP.lt ha), hP.small ha]
          have hat := hP.at ha
          rw [gm_ce_1 hl] at hat
          exact va_iald hx hb hC.1 (gm_one hat) 0 0 rfl rfl (gm_in_spec hi) hd (kk H ls locs hP hv hvl hn hnc hlo)
        · have e1 : gm_tr g (.ref 1000) = .ref (gm_ao g 1000) := rfl
          rw [e1]
          subst hz0
          rw [gm_sl_n hC hP] at hi
          have h2 := (kk H ls locs hP hv hvl hn hnc hlo)
          rw [hP.2.2.2.2.2.1 _ (gm_in_lt hi)] at h2
          exact va_sld hx hb hC.2.1 (by rw [hC.2.2.2.2.1]; exact hC.2.2.1) (gm_notA hC.2.2.1) (gm_H0S hP hC hlo) (gm_in_spec hi) hd h2
        · cases h
        · cases h
        · obtain ⟨cell, c1, c2, c3, c4, -, c6⟩ := gm_stat hP hC hj hx9
          rw [gm_tr_ref (show 1001 + j ≠ 1030 by omega), gm_ad_old (by omega)]
          exact W.iald hx hb c1 c2 c3 (gm_in_cell hi c4) (c6 _ (gm_in_lt hi)) rfl rfl hd (kk H ls locs hP hv hvl hn hnc hlo)
      · cases hs
    · cases hs
  · cases hs

theorem gs_baload (hK : gm_Ks g M n0 p R s m args meth c) (hd : decode (gm_b M) pc = .ok (.baload, len)) (hln : gm_lnb (.baload) len = true) (hs : gm_stp M (.baload) pc vs st n rf im lm = some (.inl (pc', vs', st', n', rf', im', lm'))) (hP : gm_P g n rf im lm H) (hv : gm_lv g ls vs) (hvl : vs.length = gm_ml M) (hn : n0 ≤ n) (hnc : gm_nc M = 0 → n = n0) (hlo : ∀ q ∈ locs, gm_A g q.base)
    (kk : ∀ (H1 : Heap) (ls1 : Array Slot) (locs1 : List Loc), gm_P g n' rf' im' lm' H1 → gm_lv g ls1 vs' → vs'.length = gm_ml M → n0 ≤ n' → (gm_nc M = 0 → n' = n0) → (∀ q ∈ locs1, gm_A g q.base) → W p l e R s m args below meth c H1 locs1 (n' - n0) (gm_SL n' - gm_SL n0) Q (F0 m pc' ls1 (st'.map (gm_tr g)))) : W p l e R s m args below meth c H locs (n - n0) (gm_SL n - gm_SL n0) Q (F0 m pc ls (st.map (gm_tr g))) := by
  obtain ⟨hx, hb, hml, hown, hon, hts, hC, hs0, hi0, hin, hR, hmt⟩ := hK
  simp only [gm_lnb, decide_eq_true_eq] at hln
  subst hln
  simp only [gm_stp] at hs
  split at hs
  · rename_i i a r
    split at hs
    · rename_i z hz
      split at hs
      · rename_i hi
        unfold gm_nx at hs
        cases hs
        rw [List.map_cons, List.map_cons]
        rcases gm_at_cases hz with ⟨ha, hl⟩ | ⟨-, -, h, -⟩ | ⟨-, rfl, -, rfl⟩ | ⟨-, rfl, -, rfl⟩ | ⟨-, j, x, -, -, -, h, -⟩
        · rw [gm_tr_ref (hP.lt ha), hP.small ha]
          have hat := hP.at ha
          rw [gm_ce_2 hl] at hat
          exact va_bald hx hb hC.1 (gm_one hat) 0 1 rfl rfl (gm_in_spec hi) hd (kk H ls locs hP hv hvl hn hnc hlo)
        · cases h
        · obtain ⟨cell, c1, c2, c3, c4, -, c6⟩ := gm_text hP hC (j := 0) (Or.inl ⟨rfl, rfl⟩)
          rw [gm_tr_ref (by decide), gm_ad_old (by decide)]
          exact W.bald hx hb c1 c2 c3 (gm_in_cell hi c4) (c6 _ (gm_in_lt hi)) rfl rfl hd (kk H ls locs hP hv hvl hn hnc hlo)
        · obtain ⟨cell, c1, c2, c3, c4, -, c6⟩ := gm_text hP hC (j := 1) (Or.inr ⟨rfl, rfl⟩)
          rw [gm_tr_ref (by decide), gm_ad_old (by decide)]
          exact W.bald hx hb c1 c2 c3 (gm_in_cell hi c4) (c6 _ (gm_in_lt hi)) rfl rfl hd (kk H ls locs hP hv hvl hn hnc hlo)
        · cases h
      · cases hs
    · rename_i z hz
      split at hs
      · rename_i hi
        unfold gm_nx at hs
        cases hs
        rw [List.map_cons, List.map_cons]
        rcases gm_at_cases hz with ⟨ha, hl⟩ | ⟨-, -, h, -⟩ | ⟨-, -, h, -⟩ | ⟨-, -, h, -⟩ | ⟨-, j, x, -, -, -, h, -⟩
        · rw [gm_tr_ref (hP.lt ha), hP.small ha]
          have hat := hP.at ha
          rw [gm_ce_3 hl] at hat
          exact va_zald hx hb hC.1 (gm_one hat) 0 2 rfl rfl (gm_in_spec hi) hd (kk H ls locs hP hv hvl hn hnc hlo)
        · cases h
        · cases h
        · cases h
        · cases h
      · cases hs
    · cases hs
  · cases hs

theorem gs_laload (hK : gm_Ks g M n0 p R s m args meth c) (hd : decode (gm_b M) pc = .ok (.laload, len)) (hln : gm_lnb (.laload) len = true) (hs : gm_stp M (.laload) pc vs st n rf im lm = some (.inl (pc', vs', st', n', rf', im', lm'))) (hP : gm_P g n rf im lm H) (hv : gm_lv g ls vs) (hvl : vs.length = gm_ml M) (hn : n0 ≤ n) (hnc : gm_nc M = 0 → n = n0) (hlo : ∀ q ∈ locs, gm_A g q.base)
    (kk : ∀ (H1 : Heap) (ls1 : Array Slot) (locs1 : List Loc), gm_P g n' rf' im' lm' H1 → gm_lv g ls1 vs' → vs'.length = gm_ml M → n0 ≤ n' → (gm_nc M = 0 → n' = n0) → (∀ q ∈ locs1, gm_A g q.base) → W p l e R s m args below meth c H1 locs1 (n' - n0) (gm_SL n' - gm_SL n0) Q (F0 m pc' ls1 (st'.map (gm_tr g)))) : W p l e R s m args below meth c H locs (n - n0) (gm_SL n - gm_SL n0) Q (F0 m pc ls (st.map (gm_tr g))) := by
  obtain ⟨hx, hb, hml, hown, hon, hts, hC, hs0, hi0, hin, hR, hmt⟩ := hK
  simp only [gm_lnb, decide_eq_true_eq] at hln
  subst hln
  simp only [gm_stp] at hs
  split at hs
  · split at hs
    · rename_i ha
      split at hs
      · rename_i z hl
        split at hs
        · rename_i hi
          unfold gm_nx at hs
          cases hs
          rw [List.map_cons, List.map_cons, gm_tr_ref (hP.lt ha), hP.small ha]
          have hat := hP.at ha
          rw [gm_ce_4 hl] at hat
          exact va_lald hx hb hC.1 (gm_one hat) 0 3 rfl rfl (gm_in_spec hi) hd (kk H ls locs hP hv hvl hn hnc hlo)
        · cases hs
      · cases hs
    · cases hs
  · cases hs

theorem gs_aaload (hK : gm_Ks g M n0 p R s m args meth c) (hd : decode (gm_b M) pc = .ok (.aaload, len)) (hln : gm_lnb (.aaload) len = true) (hs : gm_stp M (.aaload) pc vs st n rf im lm = some (.inl (pc', vs', st', n', rf', im', lm'))) (hP : gm_P g n rf im lm H) (hv : gm_lv g ls vs) (hvl : vs.length = gm_ml M) (hn : n0 ≤ n) (hnc : gm_nc M = 0 → n = n0) (hlo : ∀ q ∈ locs, gm_A g q.base)
    (kk : ∀ (H1 : Heap) (ls1 : Array Slot) (locs1 : List Loc), gm_P g n' rf' im' lm' H1 → gm_lv g ls1 vs' → vs'.length = gm_ml M → n0 ≤ n' → (gm_nc M = 0 → n' = n0) → (∀ q ∈ locs1, gm_A g q.base) → W p l e R s m args below meth c H1 locs1 (n' - n0) (gm_SL n' - gm_SL n0) Q (F0 m pc' ls1 (st'.map (gm_tr g)))) : W p l e R s m args below meth c H locs (n - n0) (gm_SL n - gm_SL n0) Q (F0 m pc ls (st.map (gm_tr g))) := by
  obtain ⟨hx, hb, hml, hown, hon, hts, hC, hs0, hi0, hin, hR, hmt⟩ := hK
  simp only [gm_lnb, decide_eq_true_eq] at hln
  subst hln
  simp only [gm_stp] at hs
  split at hs
  · split at hs
    · rename_i ha
      split at hs
      · rename_i z hl
        split at hs
        · rename_i hi
          split at hs
          · rename_i q hq
            split at hs
            · cases hs
            · rename_i hq0
              unfold gm_nx at hs
              cases hs
              rw [List.map_cons, List.map_cons, gm_tr_ref (hP.lt ha), hP.small ha]
              have hat := hP.at ha
              rw [gm_ce_5 hl] at hat
              have h2 := (kk H ls locs hP hv hvl hn hnc hlo)
              rw [List.map_cons, gm_tr_ref hq0] at h2
              refine W.aald hx hb (v := .ref (gm_ad g q)) hat ((hC.1.2 4 _ rfl).1 z _) rfl (fun q => by cases q) (by show ¬ (_ < 0 ∨ (arrV _ _ _).slots.size ≤ _); rw [arrV_size]; exact gm_in_spec hi) ?_ rfl rfl hd h2
              show (arrV _ _ _).slots[_]? = _
              rw [arrV_read _ _ (gm_in_lt hi)]
              simp only [hq]
              rfl
          · cases hs
        · cases hs
      · cases hs
    · cases hs
  · cases hs

theorem gs_iastore (hK : gm_Ks g M n0 p R s m args meth c) (hd : decode (gm_b M) pc = .ok (.iastore, len)) (hln : gm_lnb (.iastore) len = true) (hs : gm_stp M (.iastore) pc vs st n rf im lm = some (.inl (pc', vs', st', n', rf', im', lm'))) (hP : gm_P g n rf im lm H) (hv : gm_lv g ls vs) (hvl : vs.length = gm_ml M) (hn : n0 ≤ n) (hnc : gm_nc M = 0 → n = n0) (hlo : ∀ q ∈ locs, gm_A g q.base)
    (kk : ∀ (H1 : Heap) (ls1 : Array Slot) (locs1 : List Loc), gm_P g n' rf' im' lm' H1 → gm_lv g ls1 vs' → vs'.length = gm_ml M → n0 ≤ n' → (gm_nc M = 0 → n' = n0) → (∀ q ∈ locs1, gm_A g q.base) → W p l e R s m args below meth c H1 locs1 (n' - n0) (gm_SL n' - gm_SL n0) Q (F0 m pc' ls1 (st'.map (gm_tr g)))) : W p l e R s m args below meth c H locs (n - n0) (gm_SL n - gm_SL n0) Q (F0 m pc ls (st.map (gm_tr g))) := by
  obtain ⟨hx, hb, hml, hown, hon, hts, hC, hs0, hi0, hin, hR, hmt⟩ := hK
  simp only [gm_lnb, decide_eq_true_eq] at hln
  subst hln
  simp only [gm_stp] at hs
  split at hs
  · split at hs
    · rename_i ha
      split at hs
      · rename_i z hl
        split at hs
        · rename_i hi
          unfold gm_nx at hs
          cases hs
          rw [List.map_cons, List.map_cons, List.map_cons, gm_tr_ref (hP.lt ha)]
          exact gw_iast hx hb hC.1 hP ha hl hi hlo hd (fun H1 locs1 hP1 hlo1 => kk H1 ls locs1 hP1 hv hvl hn hnc hlo1)
        · cases hs
      · cases hs
    · cases hs
  · cases hs

theorem gs_lastore (hK : gm_Ks g M n0 p R s m args meth c) (hd : decode (gm_b M) pc = .ok (.lastore, len)) (hln : gm_lnb (.lastore) len = true) (hs : gm_stp M (.lastore) pc vs st n rf im lm = some (.inl (pc', vs', st', n', rf', im', lm'))) (hP : gm_P g n rf im lm H) (hv : gm_lv g ls vs) (hvl : vs.length = gm_ml M) (hn : n0 ≤ n) (hnc : gm_nc M = 0 → n = n0) (hlo : ∀ q ∈ locs, gm_A g q.base)
    (kk : ∀ (H1 : Heap) (ls1 : Array Slot) (locs1 : List Loc), gm_P g n' rf' im' lm' H1 → gm_lv g ls1 vs' → vs'.length = gm_ml M → n0 ≤ n' → (gm_nc M = 0 → n' = n0) → (∀ q ∈ locs1, gm_A g q.base) → W p l e R s m args below meth c H1 locs1 (n' - n0) (gm_SL n' - gm_SL n0) Q (F0 m pc' ls1 (st'.map (gm_tr g)))) : W p l e R s m args below meth c H locs (n - n0) (gm_SL n - gm_SL n0) Q (F0 m pc ls (st.map (gm_tr g))) := by
  obtain ⟨hx, hb, hml, hown, hon, hts, hC, hs0, hi0, hin, hR, hmt⟩ := hK
  simp only [gm_lnb, decide_eq_true_eq] at hln
  subst hln
  simp only [gm_stp] at hs
  split at hs
  · split at hs
    · rename_i ha
      split at hs
      · rename_i z hl
        split at hs
        · rename_i hi
          unfold gm_nx at hs
          cases hs
          rw [List.map_cons, List.map_cons, List.map_cons, gm_tr_ref (hP.lt ha)]
          exact gw_last hx hb hC.1 hP ha hl hi hlo hd (fun H1 locs1 hP1 hlo1 => kk H1 ls locs1 hP1 hv hvl hn hnc hlo1)
        · cases hs
      · cases hs
    · cases hs
  · cases hs

theorem gs_bastore (hK : gm_Ks g M n0 p R s m args meth c) (hd : decode (gm_b M) pc = .ok (.bastore, len)) (hln : gm_lnb (.bastore) len = true) (hs : gm_stp M (.bastore) pc vs st n rf im lm = some (.inl (pc', vs', st', n', rf', im', lm'))) (hP : gm_P g n rf im lm H) (hv : gm_lv g ls vs) (hvl : vs.length = gm_ml M) (hn : n0 ≤ n) (hnc : gm_nc M = 0 → n = n0) (hlo : ∀ q ∈ locs, gm_A g q.base)
    (kk : ∀ (H1 : Heap) (ls1 : Array Slot) (locs1 : List Loc), gm_P g n' rf' im' lm' H1 → gm_lv g ls1 vs' → vs'.length = gm_ml M → n0 ≤ n' → (gm_nc M = 0 → n' = n0) → (∀ q ∈ locs1, gm_A g q.base) → W p l e R s m args below meth c H1 locs1 (n' - n0) (gm_SL n' - gm_SL n0) Q (F0 m pc' ls1 (st'.map (gm_tr g)))) : W p l e R s m args below meth c H locs (n - n0) (gm_SL n - gm_SL n0) Q (F0 m pc ls (st.map (gm_tr g))) := by
  obtain ⟨hx, hb, hml, hown, hon, hts, hC, hs0, hi0, hin, hR, hmt⟩ := hK
  simp only [gm_lnb, decide_eq_true_eq] at hln
  subst hln
  simp only [gm_stp] at hs
  split at hs
  · split at hs
    · rename_i ha
      split at hs
      · rename_i z hl
        split at hs
        · rename_i hi
          unfold gm_nx at hs
          cases hs
          rw [List.map_cons, List.map_cons, List.map_cons, gm_tr_ref (hP.lt ha)]
          exact gw_bast hx hb hC.1 hP ha hl hi hlo hd (fun H1 locs1 hP1 hlo1 => kk H1 ls locs1 hP1 hv hvl hn hnc hlo1)
        · cases hs
      · rename_i z hl
        split at hs
        · rename_i hi
          unfold gm_nx at hs
          cases hs
          rw [List.map_cons, List.map_cons, List.map_cons, gm_tr_ref (hP.lt ha)]
          exact gw_zast hx hb hC.1 hP ha hl hi.1 hi.2 hlo hd (fun H1 locs1 hP1 hlo1 => kk H1 ls locs1 hP1 hv hvl hn hnc hlo1)
        · cases hs
      · cases hs
    · cases hs
  · cases hs

theorem gs_arraylength (hK : gm_Ks g M n0 p R s m args meth c) (hd : decode (gm_b M) pc = .ok (.arraylength, len)) (hln : gm_lnb (.arraylength) len = true) (hs : gm_stp M (.arraylength) pc vs st n rf im lm = some (.inl (pc', vs', st', n', rf', im', lm'))) (hP : gm_P g n rf im lm H) (hv : gm_lv g ls vs) (hvl : vs.length = gm_ml M) (hn : n0 ≤ n) (hnc : gm_nc M = 0 → n = n0) (hlo : ∀ q ∈ locs, gm_A g q.base)
    (kk : ∀ (H1 : Heap) (ls1 : Array Slot) (locs1 : List Loc), gm_P g n' rf' im' lm' H1 → gm_lv g ls1 vs' → vs'.length = gm_ml M → n0 ≤ n' → (gm_nc M = 0 → n' = n0) → (∀ q ∈ locs1, gm_A g q.base) → W p l e R s m args below meth c H1 locs1 (n' - n0) (gm_SL n' - gm_SL n0) Q (F0 m pc' ls1 (st'.map (gm_tr g)))) : W p l e R s m args below meth c H locs (n - n0) (gm_SL n - gm_SL n0) Q (F0 m pc ls (st.map (gm_tr g))) := by
  obtain ⟨hx, hb, hml, hown, hon, hts, hC, hs0, hi0, hin, hR, hmt⟩ := hK
  simp only [gm_lnb, decide_eq_true_eq] at hln
  subst hln
  simp only [gm_stp, gm_a] at hs
  split at hs
  · rename_i a r
    split at hs
    · cases hs
    · rename_i kd z hne hz
      unfold gm_nx at hs
      cases hs
      rw [List.map_cons]
      rcases gm_at_cases hz with ⟨ha, hl⟩ | ⟨-, rfl, -, hz0⟩ | ⟨-, rfl, -, rfl⟩ | ⟨-, rfl, -, rfl⟩ | ⟨-, j, x, rfl, hj, hx9, -, rfl⟩
      · rw [gm_tr_ref (hP.lt ha), hP.small ha]
        have hat := hP.at ha
        have hkd : kd = 1 ∨ kd = 2 ∨ kd = 3 ∨ kd = 4 ∨ kd = 5 := by
          have h9 := List.all_eq_true.mp gm_LK_ok _ (List.mem_of_getElem? hl)
          simp only [decide_eq_true_eq] at h9
          have h8 : kd ≠ 0 := fun h => by subst h; exact hne rfl
          omega
        rcases hkd with rfl | rfl | rfl | rfl | rfl
        · rw [gm_ce_1 hl] at hat
          exact va_alen hx hb hC.1 (gm_one hat) 0 0 rfl rfl rfl hd (kk H ls locs hP hv hvl hn hnc hlo)
        · rw [gm_ce_2 hl] at hat
          exact va_alen hx hb hC.1 (gm_one hat) 0 1 rfl rfl rfl hd (kk H ls locs hP hv hvl hn hnc hlo)
        · rw [gm_ce_3 hl] at hat
          exact va_alen hx hb hC.1 (gm_one hat) 0 2 rfl rfl rfl hd (kk H ls locs hP hv hvl hn hnc hlo)
        · rw [gm_ce_4 hl] at hat
          exact va_alen hx hb hC.1 (gm_one hat) 0 3 rfl rfl rfl hd (kk H ls locs hP hv hvl hn hnc hlo)
        · rw [gm_ce_5 hl] at hat
          exact va_alen hx hb hC.1 (gm_one hat) 0 4 rfl rfl rfl hd (kk H ls locs hP hv hvl hn hnc hlo)
      · have e1 : gm_tr g (.ref 1000) = .ref (gm_ao g 1000) := rfl
        rw [e1]
        subst hz0
        have h2 := (kk H ls locs hP hv hvl hn hnc hlo)
        rw [gm_sl_n hC hP] at h2
        exact va_slen hx hb hC.2.1 (by rw [hC.2.2.2.2.1]; exact hC.2.2.1) (gm_notA hC.2.2.1) (gm_H0S hP hC hlo) hd h2
      · obtain ⟨cell, c1, c2, -, -, c5, -⟩ := gm_text hP hC (j := 0) (Or.inl ⟨rfl, rfl⟩)
        rw [gm_tr_ref (by decide), gm_ad_old (by decide)]
        exact W.alen hx hb c1 c2 c5 rfl rfl hd (kk H ls locs hP hv hvl hn hnc hlo)
      · obtain ⟨cell, c1, c2, -, -, c5, -⟩ := gm_text hP hC (j := 1) (Or.inr ⟨rfl, rfl⟩)
        rw [gm_tr_ref (by decide), gm_ad_old (by decide)]
        exact W.alen hx hb c1 c2 c5 rfl rfl hd (kk H ls locs hP hv hvl hn hnc hlo)
      · obtain ⟨cell, c1, c2, -, -, c5, -⟩ := gm_stat hP hC hj hx9
        rw [gm_tr_ref (show 1001 + j ≠ 1030 by omega), gm_ad_old (by omega)]
        exact W.alen hx hb c1 c2 c5 rfl rfl hd (kk H ls locs hP hv hvl hn hnc hlo)
    · cases hs
  · cases hs

end GMV
