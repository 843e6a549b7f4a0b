/-! new objects, rows of rows, arraycopy, rows that were there before -/
def gm_FYb (ci : Nat) : Bool := match vwCl[ci]? with
  | some q => decide ((gm_FY.getD ci []).length = q.2.2) && (List.range q.2.2).all (fun k => decide (gm_fy ci k = gm_fyc (q.2.1 k).2.2.1) && decide (gm_fy ci k ≠ 9))
  | none => true
set_option maxRecDepth 100000 in
theorem gm_FY_ok : (List.range 12).all gm_FYb = true := by decide +kernel
theorem gm_FY_at {ci : Nat} {C : String} {T : u_T} {N : Nat} (h : vwCl[ci]? = some (C, T, N)) : (gm_FY.getD ci []).length = N ∧ ∀ k, k < N → gm_fy ci k = gm_fyc (T k).2.2.1 ∧ gm_fy ci k ≠ 9 := by
  have hlt : ci < 12 := (List.getElem?_eq_some_iff.mp h).1
  have h1 := List.all_eq_true.mp gm_FY_ok ci (List.mem_range.mpr hlt)
  unfold gm_FYb at h1
  rw [h] at h1
  simp only [Bool.and_eq_true, decide_eq_true_eq, List.all_eq_true, List.mem_range] at h1
  exact h1
section GME
variable {p : Program} {l : Launch} {e : Env} {R : Room} {s : State} {m : MethodId} {args : Array Value} {below : List Frame} {meth : Method} {c : Code} {H : Heap} {locs : List Loc} {cells slots : Nat} {Q : State → Prop}
variable {cc : ByteArray} {pc : Nat} {ls : Array Slot} {rest : List Value} {g : gm_G} {n : Nat} {rf : gm_R} {im : gm_I} {lm : gm_L}
theorem gw_new (hx : p.tables.exec = Jvm.exec) (hb : c.code = cc) (hts : ∀ w ∈ gm_T, w.before args s = true) {own C : String} {T : u_T} {N ci index : Nat} (hown : s.vm.findClass own = some m.cls) (hK : va_K (gm_D g) vwCl (gm_ty g) s) (hP : gm_P g n rf im lm H) (hl : gm_LAY[n]? = some (0, ci)) (hq : vwCl[ci]? = some (C, T, N))
    (hcl : (Jvm.Cond.classLink own index C).before args s = true) (hinst : (Jvm.Cond.instantiable C N).before args s = true) (hini : (Jvm.Cond.initialized C).before args s = true) (hcells : cells + 1 ≤ R.cells) (hslots : slots + N ≤ R.slots) (hdg : decode cc pc = .ok (.new index, 3))
    (kk : ∀ H1 : Heap, gm_P g (n + 1) (gm_zr rf n 1 none) (gm_zr im n 1 0) (gm_zr lm n 1 0) H1 → W p l e R s m args below meth c H1 locs (cells + 1) (slots + N) Q (F0 m (pc + 3) ls (.ref (gm_bs g + n) :: rest))) : W p l e R s m args below meth c H locs cells slots Q (F0 m pc ls rest) := by
  have hn1 : n + 1 ≤ gm_LAY.length := (List.getElem?_eq_some_iff.mp hl).1
  have hKn := hK.1 ci _ hq
  obtain ⟨hin, ty0, hty, -⟩ := gm_cls ci _ hq
  obtain ⟨hlen, hfy⟩ := gm_FY_at hq
  refine W.newcK hx hb hown hcl hinst hini rfl hdg hcells hslots hKn.2.1 hP.2.1 fun H1 kC hkC e1 z1 o1 => ?_
  refine kk H1 (hP.more hn1 (by rw [z1, hP.2.1]) (fun q hq => o1 q (by rw [← hP.2.1]; exact hq)) (fun j hj => ?_) (fun a ha => ⟨gm_zr_out ha, gm_zr_out ha, gm_zr_out ha⟩))
  have hj0 : j = 0 := by omega
  subst hj0
  have hr0 : gm_zr rf n 1 (none : Option Nat) n = fun _ => none := gm_zr_in ⟨Nat.le_refl _, by omega⟩
  have hi0 : gm_zr im n 1 (0 : Int32) n = fun _ => 0 := gm_zr_in ⟨Nat.le_refl _, by omega⟩
  have hl0 : gm_zr lm n 1 (0 : Int64) n = fun _ => 0 := gm_zr_in ⟨Nat.le_refl _, by omega⟩
  show va_at (gm_D g) vwCl (gm_bs g + n, gm_ce g _ _ _ n) H1
  rw [gm_ce_0 hl, hlen]
  refine ⟨_, hq, (u_born ty0 hts hin hKn hkC e1 hty).to (fun k hk => ?_)⟩
  show defaultValue (ty0 k) = vp_V ((List.range N).map (gm_fv g _ _ _ n ci)) k
  rw [gm_vpV hk]
  obtain ⟨h1, h2⟩ := hfy k hk
  have h3 := hty k hk
  unfold gm_fyc at h1
  rw [h3] at h1
  unfold gm_fv
  rw [hr0, hi0, hl0]
  cases h4 : ty0 k <;> rw [h4] at h1 <;> simp only at h1 <;> first | exact absurd h1 h2 | (rw [h1]; rfl)
theorem gw_mna (hx : p.tables.exec = Jvm.exec) (hb : c.code = cc) (hts : ∀ w ∈ gm_T, w.before args s = true) {own : String} {index : Nat} (hown : s.vm.findClass own = some m.cls) (hK : va_K (gm_D g) vwCl (gm_ty g) s) (hP : gm_P g n rf im lm H) {a b : Int32} (hl : gm_LAY[n]? = some (5, a.toNatClampNeg)) (hrows : ∀ j, j < a.toNatClampNeg → gm_LAY[n + 1 + j]? = some (1, b.toNatClampNeg)) (ha : ¬ a < 0) (hbb : ¬ b < 0) (ha2 : a.toNatClampNeg ≤ 10000) (hb2 : b.toNatClampNeg ≤ 10000)
    (hclink : (Jvm.Cond.classLink own index ("[" ++ (FieldType.array .int).toString)).before args s = true) (hover : (Jvm.Cond.arrayOver (.array .int)).before args s = true) (harr : (Jvm.Cond.arrayClass .int).before args s = true)
    (hcells : cells + (1 + a.toNatClampNeg) ≤ R.cells) (hslots : slots + (a.toNatClampNeg + a.toNatClampNeg * b.toNatClampNeg) ≤ R.slots) (hdg : decode cc pc = .ok (.multianewarray index 2, 4))
    (kk : ∀ H1 : Heap, gm_P g (n + (1 + a.toNatClampNeg)) (fun q j => if q = n then (if j < a.toNatClampNeg then some (n + 1 + j) else none) else gm_zr rf n (1 + a.toNatClampNeg) none q j) (gm_zr im n (1 + a.toNatClampNeg) 0) (gm_zr lm n (1 + a.toNatClampNeg) 0) H1 → W p l e R s m args below meth c H1 locs (cells + 1 + a.toNatClampNeg) (slots + a.toNatClampNeg + a.toNatClampNeg * b.toNatClampNeg) Q (F0 m (pc + 4) ls (.ref (gm_bs g + n) :: rest))) : W p l e R s m args below meth c H locs cells slots Q (F0 m pc ls (.int b :: .int a :: rest)) := by
  intro T hT Xs
  obtain ⟨vm₁, cA, comp, -, fA, fC, hO, -, X', step⟩ := Xs.multianewarray2F hx hown hclink hover harr (g := F0 m pc ls (.int b :: .int a :: rest)) rfl (by rw [hb]; exact hdg) rfl ha hbb (by omega) (by simp [componentBytes]; omega) (by omega) rfl rfl hcells hslots
  have ec : some g.2.1.1 = some comp := (hK.2 0 _ rfl).2.symm.trans fC
  cases ec
  have ec2 : some g.2.1.2.2.2.2 = some cA := (hK.2 4 _ rfl).2.symm.trans fA
  cases ec2
  have hTh : (T.setVm vm₁).heap = H := hT
  obtain ⟨f1, f2, -, -⟩ := Jvm.Free.Multi.fill_facts (T.setVm vm₁) g.2.1.2.2.2.2 g.2.1.1 a.toNatClampNeg b.toNatClampNeg (defaultValue .int) a.toNatClampNeg
  have hold := fun (x : Nat) (hx : x < H.size) => Jvm.Free.Multi.fill_old (T.setVm vm₁) g.2.1.2.2.2.2 g.2.1.1 a.toNatClampNeg b.toNatClampNeg (defaultValue .int) (a := x) (by rw [hTh]; exact hx) a.toNatClampNeg
  have hinn := fun (j : Nat) (hj : j < a.toNatClampNeg) => Jvm.Free.Multi.fill_inner (T.setVm vm₁) g.2.1.2.2.2.2 g.2.1.1 a.toNatClampNeg b.toNatClampNeg (defaultValue .int) a.toNatClampNeg j hj
  generalize hF : Jvm.Free.Multi.fill (T.setVm vm₁) g.2.1.2.2.2.2 g.2.1.1 a.toNatClampNeg b.toNatClampNeg (defaultValue .int) a.toNatClampNeg = F at X' step f1 f2 hold hinn
  rw [hTh] at f1 f2 hold hinn
  rw [vr_outer, hP.2.1] at f2
  rw [hP.2.1] at hinn
  have hlen : n + (1 + a.toNatClampNeg) ≤ gm_LAY.length := by
    by_cases h0 : a.toNatClampNeg = 0
    · have := (List.getElem?_eq_some_iff.mp hl).1; omega
    · have := (List.getElem?_eq_some_iff.mp (hrows (a.toNatClampNeg - 1) (by omega))).1; omega
  have hl128 := hlen
  rw [gm_LAY_len] at hl128
  have hPn : gm_P g (n + (1 + a.toNatClampNeg)) (fun q j => if q = n then (if j < a.toNatClampNeg then some (n + 1 + j) else none) else gm_zr rf n (1 + a.toNatClampNeg) none q j) (gm_zr im n (1 + a.toNatClampNeg) 0) (gm_zr lm n (1 + a.toNatClampNeg) 0) F.heap := by
    refine hP.more hlen (by omega) (fun q hq => hold q hq) (fun j hj => ?_) (fun x hxx => ⟨?_, gm_zr_out hxx, gm_zr_out hxx⟩)
    · by_cases h0 : j = 0
      · subst h0
        show va_at (gm_D g) vwCl (gm_bs g + n, gm_ce g _ _ _ n) F.heap
        rw [gm_ce_5 hl]
        show F.heap[gm_bs g + n]? = some (vp_cell _ _)
        rw [f2, vp_cell_q]
        congr 2
        funext i
        simp only [if_true]
        by_cases hi : i < a.toNatClampNeg
        · rw [if_pos hi, if_pos hi]
          show va_rf (some _) = va_rf (some (gm_ad g (n + 1 + i)))
          unfold gm_ad
          rw [if_pos (by omega)]
          congr 2
          omega
        · rw [if_neg hi, if_neg hi]; rfl
      · obtain ⟨i, rfl⟩ : ∃ i, j = i + 1 := ⟨j - 1, by omega⟩
        have hr := hrows i (by omega)
        rw [show n + (i + 1) = n + 1 + i by omega]
        rw [gm_ce_1 hr, gm_zr_in ⟨by omega, by omega⟩]
        show F.heap[gm_bs g + (n + 1 + i)]? = some (vp_cell _ _)
        have h3 := hinn i (by omega)
        rw [show gm_bs g + (n + 1 + i) = gm_bs g + n + 1 + i by omega, h3]
        show some ({ cls := g.2.1.1, slots := Array.replicate b.toNatClampNeg _, vm := .none } : Cell) = _
        rw [arrV_new]
        rfl
    · funext q
      have hxn : x ≠ n := by omega
      simp only [hxn, if_false]
      exact congrFun (gm_zr_out hxx) q
  obtain ⟨t, a1, b1⟩ := kk F.heap hPn F rfl X'
  refine ⟨t, step t ?_, b1⟩
  have e : T.heap.size = gm_bs g + n := by rw [hT]; exact hP.2.1
  rw [e]
  exact a1
theorem gw_copy (hx : p.tables.exec = Jvm.exec) (hb : c.code = cc) (hml : c.maxLocals = ls.size) {own : String} {index : Nat} (hown : s.vm.findClass own = some m.cls) (hlink : (Jvm.Cond.methodLink own index arraycopyName).before args s = true) (hnat : (Jvm.Cond.native arraycopyName).before args s = true) (hstat : (Jvm.Cond.static arraycopyName).before args s = true) (hini : (Jvm.Cond.initialized "java/lang/System").before args s = true)
    (hK : va_K (gm_D g) vwCl (gm_ty g) s) (hP : gm_P g n rf im lm H) {a b : Nat} (ha : a < n) (hbn : b < n) (hab : a ≠ b) (hla : gm_LAY[a]? = some (1, 77)) (hlb : gm_LAY[b]? = some (1, 77)) (hlo : ∀ q ∈ locs, gm_A g q.base)
    (hframes : 1 ≤ R.frames) (hlocals : 30 ≤ R.locals) (hrest : (rest.map fun v => v.category).sum ≤ 8) (hdg : decode cc pc = .ok (.invokestatic index, 3))
    (kk : ∀ (H1 : Heap) (locs1 : List Loc), gm_P g n rf (gm_cpy im a b 77) lm H1 → (∀ q ∈ locs1, gm_A g q.base) → W p l e R s m args below meth c H1 locs1 cells slots Q (F0 m (pc + 3) ls rest)) : W p l e R s m args below meth c H locs cells slots Q (F0 m pc ls (.int 77 :: .int 0 :: .ref (gm_ad g b) :: .int 0 :: .ref (gm_ad g a) :: rest)) := by
  have h77 : (77 : Int32).toNatClampNeg = 77 := by decide
  have h00 : (0 : Int32).toNatClampNeg = 0 := by decide
  rw [hP.small ha, hP.small hbn]
  intro T hT X
  have hc0 := hP.at ha
  have hc1 := hP.at hbn
  rw [gm_ce_1 hla] at hc0
  rw [gm_ce_1 hlb] at hc1
  have hc0 : H[gm_bs g + a]? = some (vp_cell g.2.1.1 (77, .inl (im a))) := hc0
  have hc1 : H[gm_bs g + b]? = some (vp_cell g.2.1.1 (77, .inl (im b))) := hc1
  obtain ⟨-, k0, hk0, cm0, hkk0⟩ := (hK.2 0 _ rfl).1 77 (fun j => .int (im a j))
  obtain ⟨-, k1, hk1, cm1, hkk1⟩ := (hK.2 0 _ rfl).1 77 (fun j => .int (im b j))
  obtain ⟨vm', X', step⟩ := X.arraycopy hx hown hlink hnat hstat hini (src := gm_bs g + a) (dst := gm_bs g + b) (cs := vp_cell g.2.1.1 (77, .inl (im a))) (cd := vp_cell g.2.1.1 (77, .inl (im b))) (srcPos := 0) (destPos := 0) (n := 77) (by rw [hT]; exact hc0) (by rw [hT]; exact hc1)
    (fun _ h => by cases h) (fun _ h => by cases h) (fun h => by cases h) (fun h => by cases h) hk0 hk1 hkk0 hkk1 (by simp [refKind]) (by decide) (by decide) (by decide)
    (by show ¬ _ > ((arrV g.2.1.1 77 (fun j => .int (im a j))).slots.size : Int); rw [arrV_size]; decide)
    (by show ¬ _ > ((arrV g.2.1.1 77 (fun j => .int (im b j))).slots.size : Int); rw [arrV_size]; decide)
    (fun vm₁ _ i hi => by
      have e : (vp_cell g.2.1.1 (77, .inl (im a))).slots.getD ((0 : Int32).toNatClampNeg + i) .null = .int (im a ((0 : Int32).toNatClampNeg + i)) := by
        show (arrV g.2.1.1 77 (fun j => .int (im a j))).slots.getD _ _ = _
        rw [h77] at hi
        rw [Array.getD_eq_getD_getElem?, arrV_read _ _ (by rw [h00]; omega)]
        rfl
      refine ⟨?_, ?_⟩
      · rw [e]; rfl
      · rw [e]; exact trivial)
    (g := F0 m pc ls (.int 77 :: .int 0 :: .ref (gm_bs g + b) :: .int 0 :: .ref (gm_bs g + a) :: rest)) rfl (by rw [hml]) (rest := rest) rfl (by rw [hb]; exact hdg) hframes (by
      have hnf : nativeFrameWords "java/lang/System" "arraycopy" 5 + 11 ≤ 22 := by decide
      show 2 * 0 + _ + _ ≤ _
      omega)
  have e1 : copied (vp_cell g.2.1.1 (77, .inl (im a))) (vp_cell g.2.1.1 (77, .inl (im b))) 0 0 77 = vp_cell g.2.1.1 (77, .inl (va_cpy (im a) (im b) (0 : Int32).toNatClampNeg (0 : Int32).toNatClampNeg (77 : Int32).toNatClampNeg)) := va_copied (fun z => .int z) g.2.1.1 g.2.1.1 (im a) (im b) (by show (0 : Int32).toNatClampNeg + (77 : Int32).toNatClampNeg ≤ 77; decide)
  rw [e1] at X' step
  have hl : gm_bs g + b < H.size := (Array.getElem?_eq_some_iff.mp hc1).1
  have hheap : ((T.setVm vm').setCell (gm_bs g + b) (vp_cell g.2.1.1 (77, .inl (va_cpy (im a) (im b) (0 : Int32).toNatClampNeg (0 : Int32).toNatClampNeg (77 : Int32).toNatClampNeg)))).heap = H.setIfInBounds (gm_bs g + b) (vp_cell g.2.1.1 (77, .inl (va_cpy (im a) (im b) (0 : Int32).toNatClampNeg (0 : Int32).toNatClampNeg (77 : Int32).toNatClampNeg))) := by rw [← hT]; rfl
  have oq : ∀ q : Nat, q ≠ gm_bs g + b → (H.setIfInBounds (gm_bs g + b) (vp_cell g.2.1.1 (77, .inl (va_cpy (im a) (im b) (0 : Int32).toNatClampNeg (0 : Int32).toNatClampNeg (77 : Int32).toNatClampNeg))))[q]? = H[q]? := fun q hq => by simp [Array.getElem?_setIfInBounds, Ne.symm hq]
  obtain ⟨t, a1, b1⟩ := kk _ _ (hP.wr hbn (by simp) oq (by
      rw [gm_ce_1 hlb]
      show (H.setIfInBounds (gm_bs g + b) _)[gm_bs g + b]? = some _
      rw [Array.getElem?_setIfInBounds, if_pos rfl, if_pos hl, h77, h00]
      congr 4
      funext j
      unfold va_cpy gm_cpy
      simp) (fun x hx => ⟨rfl, by funext j; simp [gm_cpy, hx], rfl⟩)) (fun q hq => by
      rcases List.mem_append.mp hq with h | h
      · exact hlo q h
      · obtain ⟨z, -, hz⟩ := List.mem_map.mp h
        rw [← hz]
        exact Nat.le_add_right _ _) _ hheap X'
  exact ⟨t, step t a1, b1⟩
end GME
