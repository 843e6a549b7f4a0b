/-! ===== BEGIN words of one list among another's, by their places ===== -/
theorem goodIn_r {big : List Cond} (ws : List Cond) (ps : List Nat) (hp : ws = ps.filterMap (fun i => big[i]?)) (h : ws.all goodWord = true) : GoodIn big ws := by
  intro w hw
  have h1 := List.all_eq_true.mp h w hw
  rw [hp] at hw
  obtain ⟨i, -, hi⟩ := List.mem_filterMap.mp hw
  have hm : w ∈ big := by first | exact List.mem_of_getElem? hi | exact List.getElem?_mem hi
  exact ⟨hm, good_of_word h1⟩
theorem goodIn_app {big a b : List Cond} (ha : GoodIn big a) (hb : GoodIn big b) : GoodIn big (a ++ b) := fun w h => (List.mem_append.mp h).elim (ha w) (hb w)
theorem goodIn_ca {big a b : List Cond} {c : Cond} (ha : GoodIn big (c :: a)) (hb : GoodIn big b) : GoodIn big (c :: (a ++ b)) := fun w h => (List.mem_cons.mp h).elim (fun e => ha w (List.mem_cons.mpr (Or.inl e))) (fun h => (List.mem_append.mp h).elim (fun h => ha w (List.mem_cons.mpr (Or.inr h))) (hb w))
theorem goodIn_sub {big ws : List Cond} (hm : ∀ w ∈ ws, w ∈ big) (h : ws.all goodWord = true) : GoodIn big ws := fun w hw => ⟨hm w hw, good_of_word (List.all_eq_true.mp h w hw)⟩
/-! ===== END ===== -/

/-! ===== BEGIN new T[n][m]: the outer array a place, the inner ones among the pooled ===== -/
/-- f, but v at every address of l -/
def vr_up {α : Type} (f : Nat → α) (l : List Nat) (v : α) : Nat → α := fun a => if a ∈ l then v else f a
theorem vr_up_in {α : Type} {f : Nat → α} {l : List Nat} {v : α} {a : Nat} (h : a ∈ l) : vr_up f l v a = v := if_pos h
theorem vr_up_ne {α : Type} {f : Nat → α} {l : List Nat} {v : α} {a : Nat} (h : a ∉ l) : vr_up f l v a = f a := if_neg h
theorem vr_rows {L l : List Nat} {f : Nat → va_E} {e : va_E} (h : ∀ a, a ∈ l → a ∉ L) : va_pl L f ++ l.map (fun a => (a, e)) = va_pl (L ++ l) (vr_up f l e) := by
  unfold va_pl
  rw [List.map_append]
  congr 1
  · apply List.map_congr_left
    intro a ha
    rw [vr_up_ne (fun q => h a q ha)]
  · apply List.map_congr_left
    intro a ha
    rw [vr_up_in ha]
theorem vr_lay {X rows : va_W} {x : Nat × va_E} {pl : va_W} {D : va_G} {cl : List vw_C} {H : Heap} (hP : va_P D cl (((X ++ pl) ++ [x]) ++ rows) H) : va_P D cl ((X ++ [x]) ++ (pl ++ rows)) H := by
  rw [List.append_assoc (X ++ pl)] at hP
  have h := va_P.swap hP
  rw [← List.append_assoc X] at h
  have h2 := va_P.swap h
  rw [List.append_assoc (X ++ [x])] at h2
  exact h2
theorem vr_layD {X rows : va_W} {x : Nat × va_E} {pl : va_W} {A : Nat → Prop} (hD : va_D A (((X ++ pl) ++ [x]) ++ rows)) : va_D A ((X ++ [x]) ++ (pl ++ rows)) := by
  rw [List.append_assoc (X ++ pl)] at hD
  have h := va_D.swap hD
  rw [← List.append_assoc X] at h
  have h2 := va_D.swap h
  rw [List.append_assoc (X ++ [x])] at h2
  exact h2
theorem vr_outer (c : ClassId) (N h0 : Nat) : ∀ i : Nat, Jvm.Free.Multi.outerC c N h0 i = arrV c N (fun j => va_rf (if j < i then some (h0 + 1 + j) else none))
  | 0 => by
    show ({ cls := c, slots := Array.replicate N .null, vm := .none } : Cell) = _
    rw [arrV_new]
    refine congrArg (arrV c N) (funext fun j => ?_)
    simp [va_rf]
  | i + 1 => by
    show (Jvm.Free.Multi.outerC c N h0 i).setSlot i (.ref (h0 + 1 + i)) = _
    rw [vr_outer c N h0 i, arrV_store]
    refine congrArg (arrV c N) (funext fun j => ?_)
    by_cases e : j = i
    · subst e
      simp [updV, va_rf]
    · by_cases h : j < i
      · simp [updV, e, h, Nat.lt_succ_of_lt h]
      · simp [updV, e, h, show ¬ j < i + 1 by omega]
section VGM
variable {p : Program} {l : Launch} {e : Env} {R : Room} {s : State} {m : MethodId} {args : Array Value} {below : List Frame} {meth : Method} {c : Code} {H : Heap} {locs : List Loc} {cells slots : Nat} {Q : State → Prop}
variable {cc : ByteArray} {pc : Nat} {ls : Array Slot} {rest : List Value} {D : va_G} {cl : List vw_C} {A : Nat → Prop} {a : Nat} {tys : List (ClassId × FieldType)} {ws : va_W} {H0 : Heap}
theorem va_mna {X : va_W} {L : List Nat} {f : Nat → va_E} {cc : ByteArray} (hexec : p.tables.exec = Jvm.exec) (hb : c.code = cc) {own : String} {index : Nat} {ty : FieldType} {cy : ClassId} (hown : s.vm.findClass own = some m.cls) (hclink : (Cond.classLink own index ("[" ++ (FieldType.array ty).toString)).before args s = true) (hover : va_AOA ty s) (harr : (Cond.arrayClass ty).before args s = true) (hcy : s.vm.findClass (FieldType.array ty).toString = some cy)
    (hK : va_K D cl tys s) (hP : va_P D cl (X ++ va_pl L f) H) (hD : va_D A (X ++ va_pl L f)) (hS : va_S A H0 H locs) (hA : ∀ q, H0.size ≤ q → A q) {n k : Int32} {N' K' : Nat} {z : vp_A} (hn : ¬ n < 0) (hk : ¬ k < 0) (hN : n.toNatClampNeg = N') (hM : k.toNatClampNeg = K')
    (hb1 : N' * 4 ≤ 536870912) (hb2 : K' * componentBytes ty ≤ 536870912) (hb3 : K' ≤ 536870912) (hdf : fits ty (defaultValue ty) = true) (hdd : (defaultValue ty).isDefault = true) (hcells : cells + (1 + N') ≤ R.cells) (hslots : slots + (N' + N' * K') ≤ R.slots) (hz : ∀ c : ClassId, Jvm.Free.Multi.innerC c K' (defaultValue ty) = vp_cell c z) (hdg : decode cc pc = .ok (.multianewarray index 2, 4))
    (kk : ∀ (q : Nat) (r : Nat → Nat) (cA : ClassId) (H1 : Heap), (∀ i j : Nat, i < N' → j < N' → r i = r j → i = j) → (∀ i : Nat, i < N' → r i ∉ L) → va_K D cl (tys ++ [(cA, .array ty)]) s →
      va_P D cl ((X ++ [(q, .inl (cA, N', .inr (.inr (.inr (.inr (fun i => if i < N' then some (r i) else none))))))]) ++ va_pl (L ++ (List.range N').map r) (vr_up f ((List.range N').map r) (.inl (cy, z)))) H1 → va_D A ((X ++ [(q, .inl (cA, N', .inr (.inr (.inr (.inr (fun i => if i < N' then some (r i) else none))))))]) ++ va_pl (L ++ (List.range N').map r) (vr_up f ((List.range N').map r) (.inl (cy, z)))) → va_S A H0 H1 locs →
      W p l e R s m args below meth c H1 locs (cells + 1 + N') (slots + N' + N' * K') Q (F0 m (pc + 4) ls (.ref q :: rest))) : W p l e R s m args below meth c H locs cells slots Q (F0 m pc ls (.int k :: .int n :: rest)) := by
  subst hN
  subst hM
  intro T hT Xs
  obtain ⟨vm₁, cA, comp, -, fA, fC, hO, -, X', step⟩ := Xs.multianewarray2F hexec hown hclink (va_AOA.use hover) harr (g := F0 m pc ls (.int k :: .int n :: rest)) rfl (by rw [hb]; exact hdg) rfl hn hk hb1 hb2 hb3 hdf hdd hcells hslots
  have ec : some cy = some comp := hcy.symm.trans fC
  cases ec
  generalize hF : Jvm.Free.Multi.fill (T.setVm vm₁) cA cy n.toNatClampNeg k.toNatClampNeg (defaultValue ty) n.toNatClampNeg = F at X' step
  have hTh : (T.setVm vm₁).heap = H := hT
  obtain ⟨f1, f2, -, -⟩ := Jvm.Free.Multi.fill_facts (T.setVm vm₁) cA cy n.toNatClampNeg k.toNatClampNeg (defaultValue ty) n.toNatClampNeg
  rw [hF, hTh] at f1 f2
  have hold : ∀ x : Nat, x < H.size → F.heap[x]? = H[x]? := fun x hx => by
    have := Jvm.Free.Multi.fill_old (T.setVm vm₁) cA cy n.toNatClampNeg k.toNatClampNeg (defaultValue ty) (a := x) (by rw [hTh]; exact hx) n.toNatClampNeg
    rw [hF, hTh] at this
    exact this
  have hrow : ∀ j : Nat, j < n.toNatClampNeg → F.heap[H.size + 1 + j]? = some (vp_cell cy z) := fun j hj => by
    have := Jvm.Free.Multi.fill_inner (T.setVm vm₁) cA cy n.toNatClampNeg k.toNatClampNeg (defaultValue ty) n.toNatClampNeg j hj
    rw [hF, hTh, hz] at this
    exact this
  have hout : Jvm.Free.Multi.outerC cA n.toNatClampNeg H.size n.toNatClampNeg = vp_cell cA (n.toNatClampNeg, .inr (.inr (.inr (.inr (fun i => if i < n.toNatClampNeg then some (H.size + 1 + i) else none))))) := by
    rw [vp_cell_q]
    exact vr_outer cA n.toNatClampNeg H.size n.toNatClampNeg
  rw [hout] at f2
  have hlt : ∀ a, a ∈ L → a < H.size := fun a ha => by
    obtain ⟨k9, hk9⟩ := va_pl_get (X := X) (f := f) ha
    exact (hP k9 _ hk9).lt
  have hnl : ∀ i : Nat, i < n.toNatClampNeg → H.size + 1 + i ∉ L := fun i _ h => by
    have := hlt _ h
    omega
  have hnm : ∀ a, a ∈ (List.range n.toNatClampNeg).map (fun i => H.size + 1 + i) → a ∉ L := fun a ha h => by
    obtain ⟨i, -, rfl⟩ := List.mem_map.mp ha
    have := hlt _ h
    omega
  have hP0 : va_P D cl (X ++ va_pl L f) F.heap := hP.kept (fun k9 x hx => hold x.1 ((hP k9 x hx).lt))
  have hP1 : va_P D cl ((X ++ va_pl L f) ++ [(H.size, .inl (cA, n.toNatClampNeg, .inr (.inr (.inr (.inr (fun i => if i < n.toNatClampNeg then some (H.size + 1 + i) else none))))))]) F.heap := hP0.app (fun k9 x hx => by
    have h0 : k9 < 1 := (List.getElem?_eq_some_iff.mp hx).1
    rw [show k9 = 0 by omega] at hx
    cases hx
    exact f2)
  have hP2 : va_P D cl (((X ++ va_pl L f) ++ [(H.size, .inl (cA, n.toNatClampNeg, .inr (.inr (.inr (.inr (fun i => if i < n.toNatClampNeg then some (H.size + 1 + i) else none))))))]) ++ ((List.range n.toNatClampNeg).map (fun i => H.size + 1 + i)).map (fun a => (a, .inl (cy, z)))) F.heap := hP1.app (fun k9 x hx => by
    obtain ⟨a, ha, rfl⟩ := List.mem_map.mp (List.mem_of_getElem? hx)
    obtain ⟨i, hi, rfl⟩ := List.mem_map.mp ha
    exact hrow i (List.mem_range.mp hi))
  have hD2 : va_D A (((X ++ va_pl L f) ++ [(H.size, .inl (cA, n.toNatClampNeg, .inr (.inr (.inr (.inr (fun i => if i < n.toNatClampNeg then some (H.size + 1 + i) else none))))))]) ++ ((List.range n.toNatClampNeg).map (fun i => H.size + 1 + i)).map (fun a => (a, .inl (cy, z)))) := by
    have hD1 := hD.push (e := .inl (cA, n.toNatClampNeg, .inr (.inr (.inr (.inr (fun i => if i < n.toNatClampNeg then some (H.size + 1 + i) else none)))))) hP rfl (hA _ hS.1)
    generalize hW1 : (X ++ va_pl L f) ++ [(H.size, .inl (cA, n.toNatClampNeg, .inr (.inr (.inr (.inr (fun i => if i < n.toNatClampNeg then some (H.size + 1 + i) else none))))))] = W1 at hD1 hP1 ⊢
    have hle : ∀ (k9 : Nat) (x : Nat × va_E), W1[k9]? = some x → x.1 ≤ H.size := fun k9 x hx => by
      rw [← hW1] at hx
      by_cases hl : k9 < (X ++ va_pl L f).length
      · rw [List.getElem?_append_left hl] at hx
        exact Nat.le_of_lt ((hP k9 x hx).lt)
      · rw [List.getElem?_append_right (by omega)] at hx
        have h0 : k9 - (X ++ va_pl L f).length < 1 := (List.getElem?_eq_some_iff.mp hx).1
        rw [show k9 - (X ++ va_pl L f).length = 0 by omega] at hx
        cases hx
        exact Nat.le_refl _
    have hr : ∀ (k9 : Nat) (x : Nat × va_E), (((List.range n.toNatClampNeg).map (fun i => H.size + 1 + i)).map (fun a => ((a, .inl (cy, z)) : Nat × va_E)))[k9]? = some x → x.1 = H.size + 1 + k9 := fun k9 x hx => by
      rw [List.getElem?_map, List.getElem?_map] at hx
      by_cases h9 : k9 < n.toNatClampNeg
      · rw [List.getElem?_range h9] at hx
        cases hx
        rfl
      · have hn0 : (List.range n.toNatClampNeg)[k9]? = none := List.getElem?_eq_none (by rw [List.length_range]; omega)
        rw [hn0] at hx
        cases hx
    refine ⟨fun i j x y hi hj hxy => ?_, fun k9 x hx => ?_⟩
    · by_cases h1 : i < W1.length <;> by_cases h2 : j < W1.length
      · rw [List.getElem?_append_left h1] at hi
        rw [List.getElem?_append_left h2] at hj
        exact hD1.1 i j x y hi hj hxy
      · rw [List.getElem?_append_left h1] at hi
        rw [List.getElem?_append_right (by omega)] at hj
        have := hle _ _ hi
        have := hr _ _ hj
        omega
      · rw [List.getElem?_append_right (by omega)] at hi
        rw [List.getElem?_append_left h2] at hj
        have := hle _ _ hj
        have := hr _ _ hi
        omega
      · rw [List.getElem?_append_right (by omega)] at hi hj
        have := hr _ _ hi
        have := hr _ _ hj
        omega
    · by_cases h1 : k9 < W1.length
      · rw [List.getElem?_append_left h1] at hx
        exact hD1.2 k9 x hx
      · rw [List.getElem?_append_right (by omega)] at hx
        have := hr _ _ hx
        exact hA _ (by have := hS.1; omega)
  have hAr : ArrOfT s cA (.array ty) := fun N9 z9 => by
    obtain ⟨-, k9, hk9, cm9, hkk9⟩ := (hO 0 0 0).1
    exact ⟨(fun q hq => by cases hq), k9, hk9, cm9, hkk9⟩
  have hK2 : va_K D cl (tys ++ [(cA, .array ty)]) s := ⟨hK.1, fun k9 x hx => by
    by_cases hl : k9 < tys.length
    · rw [List.getElem?_append_left hl] at hx
      exact hK.2 k9 x hx
    · rw [List.getElem?_append_right (by omega)] at hx
      have h0 : k9 - tys.length < 1 := (List.getElem?_eq_some_iff.mp hx).1
      rw [show k9 - tys.length = 0 by omega] at hx
      cases hx
      exact ⟨hAr, fA⟩⟩
  obtain ⟨t, a1, b1⟩ := kk H.size (fun i => H.size + 1 + i) cA F.heap (fun i j _ _ h => by have h9 : H.size + 1 + i = H.size + 1 + j := h; omega) hnl hK2 (by rw [← vr_rows hnm]; exact vr_lay hP2) (by rw [← vr_rows hnm]; exact vr_layD hD2) ⟨by rw [f1]; have := hS.1; omega, fun x h1 h2 => (hold x (Nat.lt_of_lt_of_le h1 hS.1)).trans (hS.2.1 x h1 h2), hS.2.2⟩ F rfl X'
  refine ⟨t, step t ?_, b1⟩
  have e : T.heap.size = H.size := by rw [hT]
  rw [e]
  exact a1
end VGM
/-! ===== END ===== -/

/-! ===== BEGIN printed: names, fields, word lists, decode rows ===== -/
def RX0 : String := "WorseSenate$Debate"
def TX0 : u_T := fun k => match k with
  | 0 => ("WorseSenate$Debate", "roll", "LWorseSenate$Roll;", true)
  | 1 => ("WorseSenate$Debate", "state", "LWorseSenate$State;", true)
  | 2 => ("WorseSenate$Debate", "speech", "LWorseSenate$Speech;", true)
  | 3 => ("WorseSenate$Debate", "who", "[I", true)
  | 4 => ("WorseSenate$Debate", "size", "I", false)
  | 5 => ("WorseSenate$Debate", "day", "I", false)
  | 6 => ("WorseSenate$Debate", "usual", "[J", true)
  | 7 => ("WorseSenate$Debate", "turned", "[J", true)
  | 8 => ("WorseSenate$Debate", "bags", "[J", true)
  | 9 => ("WorseSenate$Debate", "falls", "[I", true)
  | 10 => ("WorseSenate$Debate", "weights", "[I", true)
  | 11 => ("WorseSenate$Debate", "jurorBags", "[J", true)
  | 12 => ("WorseSenate$Debate", "speeches", "J", false)
  | 13 => ("WorseSenate$Debate", "pickers", "[I", true)
  | 14 => ("WorseSenate$Debate", "picking", "I", false)
  | 15 => ("WorseSenate$Debate", "picked", "I", false)
  | 16 => ("WorseSenate$Debate", "usualBy", "[J", true)
  | _ => ("WorseSenate$Debate", "turnedBy", "[J", true)
def tyX0 : Nat → FieldType := fun k => match k with
  | 0 => .object "WorseSenate$Roll"
  | 1 => .object "WorseSenate$State"
  | 2 => .object "WorseSenate$Speech"
  | 3 => .array .int
  | 4 => .int
  | 5 => .int
  | 6 => .array .long
  | 7 => .array .long
  | 8 => .array .long
  | 9 => .array .int
  | 10 => .array .int
  | 11 => .array .long
  | 12 => .long
  | 13 => .array .int
  | 14 => .int
  | 15 => .int
  | 16 => .array .long
  | _ => .array .long
abbrev wsX00 : List Cond := u_ws RX0 TX0 18
theorem nmX0 : ∀ a, a < 18 → ∀ b, b < 18 → a ≠ b → (TX0 a).2.1 ≠ (TX0 b).2.1 := by decide +kernel
theorem tyX0_ok : ∀ k, k < 18 → parseFieldDescriptor (TX0 k).2.2.1 = some (tyX0 k) := by decide +kernel
abbrev cX0_init : ByteArray := prog_2_method_1_code
def yX0_init : MethodName := ⟨RX0, "<init>", "(LWorseSenate$Roll;LWorseSenate$State;LWorseSenate$Speech;)V"⟩
abbrev cX0_gather : ByteArray := prog_2_method_2_code
def yX0_gather : MethodName := ⟨RX0, "gather", "(II)V"⟩
abbrev cX0_takeSpeech : ByteArray := prog_2_method_3_code
def yX0_takeSpeech : MethodName := ⟨RX0, "takeSpeech", "(I)V"⟩
abbrev cX0_asItIs : ByteArray := prog_2_method_4_code
def yX0_asItIs : MethodName := ⟨RX0, "asItIs", "()J"⟩
abbrev cX0_turnBySlip : ByteArray := prog_2_method_5_code
def yX0_turnBySlip : MethodName := ⟨RX0, "turnBySlip", "()V"⟩
abbrev cX0_turnByOath : ByteArray := prog_2_method_6_code
def yX0_turnByOath : MethodName := ⟨RX0, "turnByOath", "()V"⟩
abbrev cX0_turnByMumble : ByteArray := prog_2_method_7_code
def yX0_turnByMumble : MethodName := ⟨RX0, "turnByMumble", "()V"⟩
abbrev cX0_fillBags : ByteArray := prog_2_method_8_code
def yX0_fillBags : MethodName := ⟨RX0, "fillBags", "()V"⟩
abbrev cX0_menOf : ByteArray := prog_2_method_9_code
def yX0_menOf : MethodName := ⟨RX0, "menOf", "(I)I"⟩
abbrev cX0_weigh : ByteArray := prog_2_method_10_code
def yX0_weigh : MethodName := ⟨RX0, "weigh", "()V"⟩
abbrev cX0_allChances : ByteArray := prog_2_method_11_code
def yX0_allChances : MethodName := ⟨RX0, "allChances", "()I"⟩
abbrev cX0_chanceOf : ByteArray := prog_2_method_12_code
def yX0_chanceOf : MethodName := ⟨RX0, "chanceOf", "(I)I"⟩
abbrev cX0_whoChanges : ByteArray := prog_2_method_13_code
def yX0_whoChanges : MethodName := ⟨RX0, "whoChanges", "(I)I"⟩
abbrev cX0_maySwear : ByteArray := prog_2_method_14_code
def yX0_maySwear : MethodName := ⟨RX0, "maySwear", "(I)Z"⟩
abbrev cX0_pickManners : ByteArray := prog_2_method_15_code
def yX0_pickManners : MethodName := ⟨RX0, "pickManners", "(I)I"⟩
abbrev cX0_gatherPickers : ByteArray := prog_2_method_16_code
def yX0_gatherPickers : MethodName := ⟨RX0, "gatherPickers", "(I)V"⟩
abbrev cX0_mannerIn : ByteArray := prog_2_method_17_code
def yX0_mannerIn : MethodName := ⟨RX0, "mannerIn", "(II)I"⟩
abbrev cX0_pickedManner : ByteArray := prog_2_method_18_code
def yX0_pickedManner : MethodName := ⟨RX0, "pickedManner", "(I)I"⟩
abbrev cX0_rest : ByteArray := prog_2_method_19_code
def yX0_rest : MethodName := ⟨RX0, "rest", "(II)I"⟩
abbrev cX0_isRest : ByteArray := prog_2_method_20_code
def yX0_isRest : MethodName := ⟨RX0, "isRest", "(II)Z"⟩
abbrev cX0_gatherJurors : ByteArray := prog_2_method_21_code
def yX0_gatherJurors : MethodName := ⟨RX0, "gatherJurors", "()V"⟩
abbrev cX0_bagOf : ByteArray := prog_2_method_22_code
def yX0_bagOf : MethodName := ⟨RX0, "bagOf", "(I)J"⟩
abbrev cX0_fairest : ByteArray := prog_2_method_23_code
def yX0_fairest : MethodName := ⟨RX0, "fairest", "(I)I"⟩
abbrev cX0_harshest : ByteArray := prog_2_method_24_code
def yX0_harshest : MethodName := ⟨RX0, "harshest", "(Z)I"⟩
abbrev cX0_fallsBySeeds : ByteArray := prog_2_method_25_code
def yX0_fallsBySeeds : MethodName := ⟨RX0, "fallsBySeeds", "(II)I"⟩
def RX1 : String := "WorseSenate$Grammar"
def TX1 : u_T := fun k => match k with
  | 0 => ("WorseSenate$Grammar", "times", "[I", true)
  | 1 => ("WorseSenate$Grammar", "want", "I", false)
  | 2 => ("WorseSenate$Grammar", "names", "I", false)
  | 3 => ("WorseSenate$Grammar", "ints", "I", false)
  | 4 => ("WorseSenate$Grammar", "section", "I", false)
  | 5 => ("WorseSenate$Grammar", "open", "I", false)
  | _ => ("WorseSenate$Grammar", "ifs", "I", false)
def tyX1 : Nat → FieldType := fun k => match k with
  | 0 => .array .int
  | 1 => .int
  | 2 => .int
  | 3 => .int
  | 4 => .int
  | 5 => .int
  | _ => .int
abbrev wsX10 : List Cond := u_ws RX1 TX1 7
theorem nmX1 : ∀ a, a < 7 → ∀ b, b < 7 → a ≠ b → (TX1 a).2.1 ≠ (TX1 b).2.1 := by decide +kernel
theorem tyX1_ok : ∀ k, k < 7 → parseFieldDescriptor (TX1 k).2.2.1 = some (tyX1 k) := by decide +kernel
abbrev cX1_init : ByteArray := prog_3_method_1_code
def yX1_init : MethodName := ⟨RX1, "<init>", "()V"⟩
abbrev cX1_begin : ByteArray := prog_3_method_2_code
def yX1_begin : MethodName := ⟨RX1, "begin", "()V"⟩
abbrev cX1_mayEnd : ByteArray := prog_3_method_3_code
def yX1_mayEnd : MethodName := ⟨RX1, "mayEnd", "()Z"⟩
abbrev cX1_faultOf : ByteArray := prog_3_method_4_code
def yX1_faultOf : MethodName := ⟨RX1, "faultOf", "(I)I"⟩
abbrev cX1_openTell : ByteArray := prog_3_method_5_code
def yX1_openTell : MethodName := ⟨RX1, "openTell", "(I)I"⟩
abbrev cX1_takeField : ByteArray := prog_3_method_6_code
def yX1_takeField : MethodName := ⟨RX1, "takeField", "(I)I"⟩
abbrev cX1_takeEquals : ByteArray := prog_3_method_7_code
def yX1_takeEquals : MethodName := ⟨RX1, "takeEquals", "(I)I"⟩
abbrev cX1_takeOperand : ByteArray := prog_3_method_8_code
def yX1_takeOperand : MethodName := ⟨RX1, "takeOperand", "(I)I"⟩
abbrev cX1_takeIf : ByteArray := prog_3_method_9_code
def yX1_takeIf : MethodName := ⟨RX1, "takeIf", "()I"⟩
abbrev cX1_takeOperator : ByteArray := prog_3_method_10_code
def yX1_takeOperator : MethodName := ⟨RX1, "takeOperator", "(I)I"⟩
abbrev cX1_closeSection : ByteArray := prog_3_method_11_code
def yX1_closeSection : MethodName := ⟨RX1, "closeSection", "(I)I"⟩
def RX2 : String := "WorseSenate$Laws"
def TX2 : u_T := fun k => match k with
  | 0 => ("WorseSenate$Laws", "steps", "[I", true)
  | 1 => ("WorseSenate$Laws", "args", "[I", true)
  | 2 => ("WorseSenate$Laws", "starts", "[I", true)
  | 3 => ("WorseSenate$Laws", "numbers", "[I", true)
  | 4 => ("WorseSenate$Laws", "waiting", "[I", true)
  | 5 => ("WorseSenate$Laws", "size", "I", false)
  | _ => ("WorseSenate$Laws", "waits", "I", false)
def tyX2 : Nat → FieldType := fun k => match k with
  | 0 => .array .int
  | 1 => .array .int
  | 2 => .array .int
  | 3 => .array .int
  | 4 => .array .int
  | 5 => .int
  | _ => .int
abbrev wsX20 : List Cond := u_ws RX2 TX2 7
theorem nmX2 : ∀ a, a < 7 → ∀ b, b < 7 → a ≠ b → (TX2 a).2.1 ≠ (TX2 b).2.1 := by decide +kernel
theorem tyX2_ok : ∀ k, k < 7 → parseFieldDescriptor (TX2 k).2.2.1 = some (tyX2 k) := by decide +kernel
abbrev cX2_init : ByteArray := prog_4_method_1_code
def yX2_init : MethodName := ⟨RX2, "<init>", "()V"⟩
abbrev cX2_begin : ByteArray := prog_4_method_2_code
def yX2_begin : MethodName := ⟨RX2, "begin", "()V"⟩
abbrev cX2_take : ByteArray := prog_4_method_3_code
def yX2_take : MethodName := ⟨RX2, "take", "(ILWorseSenate$Tokens;I)V"⟩
abbrev cX2_takeSign : ByteArray := prog_4_method_4_code
def yX2_takeSign : MethodName := ⟨RX2, "takeSign", "(I)V"⟩
abbrev cX2_release : ByteArray := prog_4_method_5_code
def yX2_release : MethodName := ⟨RX2, "release", "(I)V"⟩
abbrev cX2_rank : ByteArray := prog_4_method_6_code
def yX2_rank : MethodName := ⟨RX2, "rank", "(I)I"⟩
abbrev cX2_addStep : ByteArray := prog_4_method_7_code
def yX2_addStep : MethodName := ⟨RX2, "addStep", "(II)V"⟩
abbrev cX2_value : ByteArray := prog_4_method_8_code
def yX2_value : MethodName := ⟨RX2, "value", "(I[I)I"⟩
def RX3 : String := "WorseSenate$Past"
def TX3 : u_T := fun k => match k with
  | 0 => ("WorseSenate$Past", "done", "[[I", true)
  | 1 => ("WorseSenate$Past", "slots", "[[I", true)
  | 2 => ("WorseSenate$Past", "next", "I", false)
  | 3 => ("WorseSenate$Past", "size", "I", false)
  | _ => ("WorseSenate$Past", "held", "I", false)
def tyX3 : Nat → FieldType := fun k => match k with
  | 0 => .array (.array .int)
  | 1 => .array (.array .int)
  | 2 => .int
  | 3 => .int
  | _ => .int
abbrev wsX30 : List Cond := u_ws RX3 TX3 5
theorem nmX3 : ∀ a, a < 5 → ∀ b, b < 5 → a ≠ b → (TX3 a).2.1 ≠ (TX3 b).2.1 := by decide +kernel
theorem tyX3_ok : ∀ k, k < 5 → parseFieldDescriptor (TX3 k).2.2.1 = some (tyX3 k) := by decide +kernel
abbrev cX3_init : ByteArray := prog_5_method_1_code
def yX3_init : MethodName := ⟨RX3, "<init>", "()V"⟩
abbrev cX3_clear : ByteArray := prog_5_method_2_code
def yX3_clear : MethodName := ⟨RX3, "clear", "()V"⟩
abbrev cX3_keep : ByteArray := prog_5_method_3_code
def yX3_keep : MethodName := ⟨RX3, "keep", "(LWorseSenate$State;)V"⟩
abbrev cX3_takeBack : ByteArray := prog_5_method_4_code
def yX3_takeBack : MethodName := ⟨RX3, "takeBack", "(LWorseSenate$State;)Z"⟩
abbrev cX3_putInSlot : ByteArray := prog_5_method_5_code
def yX3_putInSlot : MethodName := ⟨RX3, "putInSlot", "(ILWorseSenate$State;)V"⟩
abbrev cX3_takeFromSlot : ByteArray := prog_5_method_6_code
def yX3_takeFromSlot : MethodName := ⟨RX3, "takeFromSlot", "(ILWorseSenate$State;)Z"⟩
abbrev cX3_copyRow : ByteArray := prog_5_method_7_code
def yX3_copyRow : MethodName := ⟨RX3, "copyRow", "([I[I)V"⟩
def RX4 : String := "WorseSenate$Reader"
def TX4 : u_T := fun k => match k with
  | 0 => ("WorseSenate$Reader", "scanner", "LWorseSenate$Scanner;", true)
  | 1 => ("WorseSenate$Reader", "grammar", "LWorseSenate$Grammar;", true)
  | 2 => ("WorseSenate$Reader", "tokens", "LWorseSenate$Tokens;", true)
  | _ => ("WorseSenate$Reader", "place", "I", false)
def tyX4 : Nat → FieldType := fun k => match k with
  | 0 => .object "WorseSenate$Scanner"
  | 1 => .object "WorseSenate$Grammar"
  | 2 => .object "WorseSenate$Tokens"
  | _ => .int
abbrev wsX40 : List Cond := u_ws RX4 TX4 4
theorem nmX4 : ∀ a, a < 4 → ∀ b, b < 4 → a ≠ b → (TX4 a).2.1 ≠ (TX4 b).2.1 := by decide +kernel
theorem tyX4_ok : ∀ k, k < 4 → parseFieldDescriptor (TX4 k).2.2.1 = some (tyX4 k) := by decide +kernel
abbrev cX4_init : ByteArray := prog_6_method_1_code
def yX4_init : MethodName := ⟨RX4, "<init>", "()V"⟩
abbrev cX4_faultOf : ByteArray := prog_6_method_2_code
def yX4_faultOf : MethodName := ⟨RX4, "faultOf", "([BI)I"⟩
abbrev cX4_faultOfForm : ByteArray := prog_6_method_3_code
def yX4_faultOfForm : MethodName := ⟨RX4, "faultOfForm", "([BI)I"⟩
abbrev cX4_faultOfSense : ByteArray := prog_6_method_4_code
def yX4_faultOfSense : MethodName := ⟨RX4, "faultOfSense", "(I)I"⟩
abbrev cX4_faultOfTell : ByteArray := prog_6_method_5_code
def yX4_faultOfTell : MethodName := ⟨RX4, "faultOfTell", "(II)I"⟩
def RX5 : String := "WorseSenate$Roll"
def TX5 : u_T := fun k => match k with
  | 0 => ("WorseSenate$Roll", "sides", "I", false)
  | 1 => ("WorseSenate$Roll", "seed", "I", false)
  | 2 => ("WorseSenate$Roll", "men", "I", false)
  | 3 => ("WorseSenate$Roll", "motions", "I", false)
  | 4 => ("WorseSenate$Roll", "jurors", "I", false)
  | 5 => ("WorseSenate$Roll", "manRows", "[I", true)
  | 6 => ("WorseSenate$Roll", "worths", "[I", true)
  | 7 => ("WorseSenate$Roll", "leans", "[I", true)
  | _ => ("WorseSenate$Roll", "laws", "LWorseSenate$Laws;", true)
def tyX5 : Nat → FieldType := fun k => match k with
  | 0 => .int
  | 1 => .int
  | 2 => .int
  | 3 => .int
  | 4 => .int
  | 5 => .array .int
  | 6 => .array .int
  | 7 => .array .int
  | _ => .object "WorseSenate$Laws"
abbrev wsX50 : List Cond := u_ws RX5 TX5 9
theorem nmX5 : ∀ a, a < 9 → ∀ b, b < 9 → a ≠ b → (TX5 a).2.1 ≠ (TX5 b).2.1 := by decide +kernel
theorem tyX5_ok : ∀ k, k < 9 → parseFieldDescriptor (TX5 k).2.2.1 = some (tyX5 k) := by decide +kernel
abbrev cX5_init : ByteArray := prog_7_method_1_code
def yX5_init : MethodName := ⟨RX5, "<init>", "()V"⟩
abbrev cX5_fill : ByteArray := prog_7_method_2_code
def yX5_fill : MethodName := ⟨RX5, "fill", "(LWorseSenate$Tokens;)V"⟩
abbrev cX5_takeTell : ByteArray := prog_7_method_3_code
def yX5_takeTell : MethodName := ⟨RX5, "takeTell", "(ILWorseSenate$Tokens;I)V"⟩
abbrev cX5_toldOf : ByteArray := prog_7_method_4_code
def yX5_toldOf : MethodName := ⟨RX5, "toldOf", "(II)I"⟩
abbrev cX5_slipOf : ByteArray := prog_7_method_5_code
def yX5_slipOf : MethodName := ⟨RX5, "slipOf", "(I)I"⟩
abbrev cX5_worthOf : ByteArray := prog_7_method_6_code
def yX5_worthOf : MethodName := ⟨RX5, "worthOf", "(II)I"⟩
def RX6 : String := "WorseSenate$Scanner"
def TX6 : u_T := fun k => match k with
  | 0 => ("WorseSenate$Scanner", "words", "[J", true)
  | 1 => ("WorseSenate$Scanner", "kind", "I", false)
  | 2 => ("WorseSenate$Scanner", "value", "J", false)
  | 3 => ("WorseSenate$Scanner", "place", "I", false)
  | _ => ("WorseSenate$Scanner", "next", "I", false)
def tyX6 : Nat → FieldType := fun k => match k with
  | 0 => .array .long
  | 1 => .int
  | 2 => .long
  | 3 => .int
  | _ => .int
abbrev wsX60 : List Cond := u_ws RX6 TX6 5
theorem nmX6 : ∀ a, a < 5 → ∀ b, b < 5 → a ≠ b → (TX6 a).2.1 ≠ (TX6 b).2.1 := by decide +kernel
theorem tyX6_ok : ∀ k, k < 5 → parseFieldDescriptor (TX6 k).2.2.1 = some (tyX6 k) := by decide +kernel
abbrev cX6_init : ByteArray := prog_8_method_1_code
def yX6_init : MethodName := ⟨RX6, "<init>", "()V"⟩
abbrev cX6_step : ByteArray := prog_8_method_2_code
def yX6_step : MethodName := ⟨RX6, "step", "([BII)V"⟩
abbrev cX6_takeLetters : ByteArray := prog_8_method_3_code
def yX6_takeLetters : MethodName := ⟨RX6, "takeLetters", "([BI)V"⟩
abbrev cX6_takeDigits : ByteArray := prog_8_method_4_code
def yX6_takeDigits : MethodName := ⟨RX6, "takeDigits", "([BI)V"⟩
abbrev cX6_isBlank : ByteArray := prog_8_method_5_code
def yX6_isBlank : MethodName := ⟨RX6, "isBlank", "(B)Z"⟩
abbrev cX6_isLetter : ByteArray := prog_8_method_6_code
def yX6_isLetter : MethodName := ⟨RX6, "isLetter", "(B)Z"⟩
abbrev cX6_isDigit : ByteArray := prog_8_method_7_code
def yX6_isDigit : MethodName := ⟨RX6, "isDigit", "(B)Z"⟩
def RX7 : String := "WorseSenate$Speech"
def TX7 : u_T := fun k => match k with
  | 0 => ("WorseSenate$Speech", "roll", "LWorseSenate$Roll;", true)
  | 1 => ("WorseSenate$Speech", "vars", "[I", true)
  | 2 => ("WorseSenate$Speech", "man", "I", false)
  | 3 => ("WorseSenate$Speech", "skill", "I", false)
  | 4 => ("WorseSenate$Speech", "pleads", "I", false)
  | 5 => ("WorseSenate$Speech", "manner", "I", false)
  | 6 => ("WorseSenate$Speech", "slip", "I", false)
  | 7 => ("WorseSenate$Speech", "praise", "I", false)
  | 8 => ("WorseSenate$Speech", "day", "I", false)
  | 9 => ("WorseSenate$Speech", "sworn", "I", false)
  | _ => ("WorseSenate$Speech", "old", "I", false)
def tyX7 : Nat → FieldType := fun k => match k with
  | 0 => .object "WorseSenate$Roll"
  | 1 => .array .int
  | 2 => .int
  | 3 => .int
  | 4 => .int
  | 5 => .int
  | 6 => .int
  | 7 => .int
  | 8 => .int
  | 9 => .int
  | _ => .int
abbrev wsX70 : List Cond := u_ws RX7 TX7 11
theorem nmX7 : ∀ a, a < 11 → ∀ b, b < 11 → a ≠ b → (TX7 a).2.1 ≠ (TX7 b).2.1 := by decide +kernel
theorem tyX7_ok : ∀ k, k < 11 → parseFieldDescriptor (TX7 k).2.2.1 = some (tyX7 k) := by decide +kernel
abbrev cX7_init : ByteArray := prog_9_method_1_code
def yX7_init : MethodName := ⟨RX7, "<init>", "(LWorseSenate$Roll;)V"⟩
abbrev cX7_take : ByteArray := prog_9_method_2_code
def yX7_take : MethodName := ⟨RX7, "take", "(LWorseSenate$State;I)V"⟩
abbrev cX7_goodness : ByteArray := prog_9_method_3_code
def yX7_goodness : MethodName := ⟨RX7, "goodness", "()I"⟩
abbrev cX7_markBy : ByteArray := prog_9_method_4_code
def yX7_markBy : MethodName := ⟨RX7, "markBy", "(II)I"⟩
abbrev cX7_totalAs : ByteArray := prog_9_method_5_code
def yX7_totalAs : MethodName := ⟨RX7, "totalAs", "(I)I"⟩
abbrev cX7_entry : ByteArray := prog_9_method_6_code
def yX7_entry : MethodName := ⟨RX7, "entry", "()J"⟩
abbrev cX7_fineFor : ByteArray := prog_9_method_7_code
def yX7_fineFor : MethodName := ⟨RX7, "fineFor", "(I)I"⟩
abbrev cX7_setVars : ByteArray := prog_9_method_8_code
def yX7_setVars : MethodName := ⟨RX7, "setVars", "(IIII)V"⟩
def RX8 : String := "WorseSenate$State"
def TX8 : u_T := fun k => match k with
  | _ => ("WorseSenate$State", "row", "[I", true)
def tyX8 : Nat → FieldType := fun k => match k with
  | _ => .array .int
abbrev wsX80 : List Cond := u_ws RX8 TX8 1
theorem nmX8 : ∀ a, a < 1 → ∀ b, b < 1 → a ≠ b → (TX8 a).2.1 ≠ (TX8 b).2.1 := by decide +kernel
theorem tyX8_ok : ∀ k, k < 1 → parseFieldDescriptor (TX8 k).2.2.1 = some (tyX8 k) := by decide +kernel
abbrev cX8_init : ByteArray := prog_10_method_1_code
def yX8_init : MethodName := ⟨RX8, "<init>", "()V"⟩
abbrev cX8_begin : ByteArray := prog_10_method_2_code
def yX8_begin : MethodName := ⟨RX8, "begin", "(LWorseSenate$Roll;)V"⟩
abbrev cX8_get : ByteArray := prog_10_method_3_code
def yX8_get : MethodName := ⟨RX8, "get", "(II)I"⟩
abbrev cX8_set : ByteArray := prog_10_method_4_code
def yX8_set : MethodName := ⟨RX8, "set", "(III)V"⟩
abbrev cX8_hush : ByteArray := prog_10_method_5_code
def yX8_hush : MethodName := ⟨RX8, "hush", "(I)V"⟩
abbrev cX8_isSworn : ByteArray := prog_10_method_6_code
def yX8_isSworn : MethodName := ⟨RX8, "isSworn", "(I)Z"⟩
abbrev cX8_pleadsFor : ByteArray := prog_10_method_7_code
def yX8_pleadsFor : MethodName := ⟨RX8, "pleadsFor", "(II)I"⟩
abbrev cX8_behind : ByteArray := prog_10_method_8_code
def yX8_behind : MethodName := ⟨RX8, "behind", "(II)I"⟩
abbrev cX8_pay : ByteArray := prog_10_method_9_code
def yX8_pay : MethodName := ⟨RX8, "pay", "(II)V"⟩
abbrev cX8_paid : ByteArray := prog_10_method_10_code
def yX8_paid : MethodName := ⟨RX8, "paid", "()I"⟩
abbrev cX8_day : ByteArray := prog_10_method_11_code
def yX8_day : MethodName := ⟨RX8, "day", "()I"⟩
abbrev cX8_fellTo : ByteArray := prog_10_method_12_code
def yX8_fellTo : MethodName := ⟨RX8, "fellTo", "(I)I"⟩
abbrev cX8_fall : ByteArray := prog_10_method_13_code
def yX8_fall : MethodName := ⟨RX8, "fall", "(II)V"⟩
def RX9 : String := "WorseSenate$Tally"
def TX9 : u_T := fun k => match k with
  | _ => ("", "", "", false)
def tyX9 : Nat → FieldType := fun k => match k with
  | _ => .int
abbrev wsX90 : List Cond := u_ws RX9 TX9 0
theorem nmX9 : ∀ a, a < 0 → ∀ b, b < 0 → a ≠ b → (TX9 a).2.1 ≠ (TX9 b).2.1 := by decide +kernel
theorem tyX9_ok : ∀ k, k < 0 → parseFieldDescriptor (TX9 k).2.2.1 = some (tyX9 k) := by decide +kernel
abbrev cX9_part : ByteArray := prog_11_method_2_code
def yX9_part : MethodName := ⟨RX9, "part", "(II)J"⟩
abbrev cX9_total : ByteArray := prog_11_method_3_code
def yX9_total : MethodName := ⟨RX9, "total", "(JI)I"⟩
abbrev cX9_speeches : ByteArray := prog_11_method_4_code
def yX9_speeches : MethodName := ⟨RX9, "speeches", "(JI)I"⟩
abbrev cX9_winner : ByteArray := prog_11_method_5_code
def yX9_winner : MethodName := ⟨RX9, "winner", "(J)I"⟩
abbrev cX9_greatestBut : ByteArray := prog_11_method_6_code
def yX9_greatestBut : MethodName := ⟨RX9, "greatestBut", "(JI)I"⟩
abbrev cX9_over : ByteArray := prog_11_method_7_code
def yX9_over : MethodName := ⟨RX9, "over", "(JII)I"⟩
abbrev cX9_lead : ByteArray := prog_11_method_8_code
def yX9_lead : MethodName := ⟨RX9, "lead", "(J)I"⟩
abbrev cX9_hundredfold : ByteArray := prog_11_method_9_code
def yX9_hundredfold : MethodName := ⟨RX9, "hundredfold", "(JII)I"⟩
abbrev cX9_least : ByteArray := prog_11_method_10_code
def yX9_least : MethodName := ⟨RX9, "least", "(J)I"⟩
abbrev cX9_apart : ByteArray := prog_11_method_11_code
def yX9_apart : MethodName := ⟨RX9, "apart", "(J)I"⟩
abbrev cX9_apartExactly : ByteArray := prog_11_method_12_code
def yX9_apartExactly : MethodName := ⟨RX9, "apartExactly", "(J)I"⟩
def RX10 : String := "WorseSenate$Tokens"
def TX10 : u_T := fun k => match k with
  | 0 => ("WorseSenate$Tokens", "kinds", "[I", true)
  | 1 => ("WorseSenate$Tokens", "values", "[J", true)
  | 2 => ("WorseSenate$Tokens", "places", "[I", true)
  | _ => ("WorseSenate$Tokens", "size", "I", false)
def tyX10 : Nat → FieldType := fun k => match k with
  | 0 => .array .int
  | 1 => .array .long
  | 2 => .array .int
  | _ => .int
abbrev wsX100 : List Cond := u_ws RX10 TX10 4
theorem nmX10 : ∀ a, a < 4 → ∀ b, b < 4 → a ≠ b → (TX10 a).2.1 ≠ (TX10 b).2.1 := by decide +kernel
theorem tyX10_ok : ∀ k, k < 4 → parseFieldDescriptor (TX10 k).2.2.1 = some (tyX10 k) := by decide +kernel
abbrev cX10_init : ByteArray := prog_12_method_1_code
def yX10_init : MethodName := ⟨RX10, "<init>", "()V"⟩
abbrev cX10_add : ByteArray := prog_12_method_2_code
def yX10_add : MethodName := ⟨RX10, "add", "(IJI)V"⟩
abbrev cX10_kindAt : ByteArray := prog_12_method_3_code
def yX10_kindAt : MethodName := ⟨RX10, "kindAt", "(I)I"⟩
abbrev cX10_valueAt : ByteArray := prog_12_method_4_code
def yX10_valueAt : MethodName := ⟨RX10, "valueAt", "(I)J"⟩
abbrev cX10_placeAt : ByteArray := prog_12_method_5_code
def yX10_placeAt : MethodName := ⟨RX10, "placeAt", "(I)I"⟩
abbrev cX10_tellAt : ByteArray := prog_12_method_6_code
def yX10_tellAt : MethodName := ⟨RX10, "tellAt", "(I)I"⟩
abbrev cX10_isNameTwice : ByteArray := prog_12_method_7_code
def yX10_isNameTwice : MethodName := ⟨RX10, "isNameTwice", "(I)Z"⟩
def RX11 : String := "WorseSenate"
def TX11 : u_T := fun k => match k with
  | 0 => ("WorseSenate", "tape", "[B", true)
  | 1 => ("WorseSenate", "tapeSize", "I", false)
  | 2 => ("WorseSenate", "faultPlace", "I", false)
  | 3 => ("WorseSenate", "reader", "LWorseSenate$Reader;", true)
  | 4 => ("WorseSenate", "roll", "LWorseSenate$Roll;", true)
  | 5 => ("WorseSenate", "state", "LWorseSenate$State;", true)
  | 6 => ("WorseSenate", "past", "LWorseSenate$Past;", true)
  | 7 => ("WorseSenate", "speech", "LWorseSenate$Speech;", true)
  | 8 => ("WorseSenate", "debate", "LWorseSenate$Debate;", true)
  | 9 => ("WorseSenate", "toldMan", "[I", true)
  | 10 => ("WorseSenate", "toldSum", "[I", true)
  | _ => ("WorseSenate", "told", "I", false)
def tyX11 : Nat → FieldType := fun k => match k with
  | 0 => .array .byte
  | 1 => .int
  | 2 => .int
  | 3 => .object "WorseSenate$Reader"
  | 4 => .object "WorseSenate$Roll"
  | 5 => .object "WorseSenate$State"
  | 6 => .object "WorseSenate$Past"
  | 7 => .object "WorseSenate$Speech"
  | 8 => .object "WorseSenate$Debate"
  | 9 => .array .int
  | 10 => .array .int
  | _ => .int
abbrev wsX110 : List Cond := u_ws RX11 TX11 12
theorem nmX11 : ∀ a, a < 12 → ∀ b, b < 12 → a ≠ b → (TX11 a).2.1 ≠ (TX11 b).2.1 := by decide +kernel
theorem tyX11_ok : ∀ k, k < 12 → parseFieldDescriptor (TX11 k).2.2.1 = some (tyX11 k) := by decide +kernel
abbrev cX11_init : ByteArray := prog_1_method_1_code
def yX11_init : MethodName := ⟨RX11, "<init>", "()V"⟩
abbrev cX11_feed : ByteArray := prog_1_method_2_code
def yX11_feed : MethodName := ⟨RX11, "feed", "(IIIII)I"⟩
abbrev cX11_back : ByteArray := prog_1_method_3_code
def yX11_back : MethodName := ⟨RX11, "back", "(I)I"⟩
abbrev cX11_read : ByteArray := prog_1_method_4_code
def yX11_read : MethodName := ⟨RX11, "read", "()I"⟩
abbrev cX11_place : ByteArray := prog_1_method_5_code
def yX11_place : MethodName := ⟨RX11, "place", "()I"⟩
abbrev cX11_man : ByteArray := prog_1_method_6_code
def yX11_man : MethodName := ⟨RX11, "man", "(II)I"⟩
abbrev cX11_motion : ByteArray := prog_1_method_7_code
def yX11_motion : MethodName := ⟨RX11, "motion", "(II)I"⟩
abbrev cX11_argues : ByteArray := prog_1_method_8_code
def yX11_argues : MethodName := ⟨RX11, "argues", "(IIZ)I"⟩
abbrev cX11_mark : ByteArray := prog_1_method_9_code
def yX11_mark : MethodName := ⟨RX11, "mark", "(IIZ)I"⟩
abbrev cX11_sum : ByteArray := prog_1_method_10_code
def yX11_sum : MethodName := ⟨RX11, "sum", "(IZ)I"⟩
abbrev cX11_speak : ByteArray := prog_1_method_11_code
def yX11_speak : MethodName := ⟨RX11, "speak", "(III)Z"⟩
abbrev cX11_praise : ByteArray := prog_1_method_12_code
def yX11_praise : MethodName := ⟨RX11, "praise", "(I)I"⟩
abbrev cX11_reads : ByteArray := prog_1_method_13_code
def yX11_reads : MethodName := ⟨RX11, "reads", "(II)I"⟩
abbrev cX11_swear : ByteArray := prog_1_method_14_code
def yX11_swear : MethodName := ⟨RX11, "swear", "(II)Z"⟩
abbrev cX11_session : ByteArray := prog_1_method_15_code
def yX11_session : MethodName := ⟨RX11, "session", "(I)I"⟩
abbrev cX11_undo : ByteArray := prog_1_method_16_code
def yX11_undo : MethodName := ⟨RX11, "undo", "()Z"⟩
abbrev cX11_now : ByteArray := prog_1_method_17_code
def yX11_now : MethodName := ⟨RX11, "now", "(II)I"⟩
abbrev cX11_likely : ByteArray := prog_1_method_18_code
def yX11_likely : MethodName := ⟨RX11, "likely", "(IIZ)I"⟩
abbrev cX11_change : ByteArray := prog_1_method_19_code
def yX11_change : MethodName := ⟨RX11, "change", "(III)I"⟩
abbrev cX11_choose : ByteArray := prog_1_method_20_code
def yX11_choose : MethodName := ⟨RX11, "choose", "(III)I"⟩
abbrev cX11_chosen : ByteArray := prog_1_method_21_code
def yX11_chosen : MethodName := ⟨RX11, "chosen", "(IIZ)I"⟩
abbrev cX11_mumble : ByteArray := prog_1_method_22_code
def yX11_mumble : MethodName := ⟨RX11, "mumble", "(II)I"⟩
abbrev cX11_jury : ByteArray := prog_1_method_23_code
def yX11_jury : MethodName := ⟨RX11, "jury", "(III)I"⟩
abbrev cX11_say : ByteArray := prog_1_method_24_code
def yX11_say : MethodName := ⟨RX11, "say", "(II)I"⟩
abbrev cX11_fine : ByteArray := prog_1_method_25_code
def yX11_fine : MethodName := ⟨RX11, "fine", "(IZ)I"⟩
abbrev cX11_ahead : ByteArray := prog_1_method_26_code
def yX11_ahead : MethodName := ⟨RX11, "ahead", "(I)I"⟩
abbrev cX11_harsh : ByteArray := prog_1_method_27_code
def yX11_harsh : MethodName := ⟨RX11, "harsh", "(IZ)I"⟩
abbrev cX11_praiseFor : ByteArray := prog_1_method_28_code
def yX11_praiseFor : MethodName := ⟨RX11, "praiseFor", "(III)I"⟩
abbrev cX11_old : ByteArray := prog_1_method_29_code
def yX11_old : MethodName := ⟨RX11, "old", "(II)I"⟩
abbrev cX11_year : ByteArray := prog_1_method_30_code
def yX11_year : MethodName := ⟨RX11, "year", "(II)I"⟩
abbrev cX11_tell : ByteArray := prog_1_method_31_code
def yX11_tell : MethodName := ⟨RX11, "tell", "(II)I"⟩
abbrev cX11_forget : ByteArray := prog_1_method_32_code
def yX11_forget : MethodName := ⟨RX11, "forget", "()I"⟩
abbrev cX11_slipped : ByteArray := prog_1_method_33_code
def yX11_slipped : MethodName := ⟨RX11, "slipped", "(II)I"⟩
abbrev cX11_thinks : ByteArray := prog_1_method_34_code
def yX11_thinks : MethodName := ⟨RX11, "thinks", "(II)I"⟩
abbrev cX11_hold : ByteArray := prog_1_method_35_code
def yX11_hold : MethodName := ⟨RX11, "hold", "(I)Z"⟩
abbrev cX11_restore : ByteArray := prog_1_method_36_code
def yX11_restore : MethodName := ⟨RX11, "restore", "(I)Z"⟩
abbrev cX11_count : ByteArray := prog_1_method_37_code
def yX11_count : MethodName := ⟨RX11, "count", "(I)I"⟩
abbrev cX11_putBytes : ByteArray := prog_1_method_38_code
def yX11_putBytes : MethodName := ⟨RX11, "putBytes", "(I)V"⟩
abbrev cX11_isMan : ByteArray := prog_1_method_39_code
def yX11_isMan : MethodName := ⟨RX11, "isMan", "(I)Z"⟩
abbrev cX11_isMotion : ByteArray := prog_1_method_40_code
def yX11_isMotion : MethodName := ⟨RX11, "isMotion", "(I)Z"⟩
abbrev cX11_isSide : ByteArray := prog_1_method_41_code
def yX11_isSide : MethodName := ⟨RX11, "isSide", "(I)Z"⟩
abbrev cX11_isManner : ByteArray := prog_1_method_42_code
def yX11_isManner : MethodName := ⟨RX11, "isManner", "(I)Z"⟩
abbrev cX11_isSilent : ByteArray := prog_1_method_43_code
def yX11_isSilent : MethodName := ⟨RX11, "isSilent", "(I)Z"⟩
abbrev cX11_speakersOn : ByteArray := prog_1_method_44_code
def yX11_speakersOn : MethodName := ⟨RX11, "speakersOn", "(I)I"⟩
abbrev cX11_fallenMotions : ByteArray := prog_1_method_45_code
def yX11_fallenMotions : MethodName := ⟨RX11, "fallenMotions", "()I"⟩
abbrev cX11_swornMen : ByteArray := prog_1_method_46_code
def yX11_swornMen : MethodName := ⟨RX11, "swornMen", "()I"⟩
abbrev cX11_menWithSpeech : ByteArray := prog_1_method_47_code
def yX11_menWithSpeech : MethodName := ⟨RX11, "menWithSpeech", "()I"⟩
abbrev cX11_overAll : ByteArray := prog_1_method_48_code
def yX11_overAll : MethodName := ⟨RX11, "overAll", "(I)I"⟩
abbrev cX11_totalOf : ByteArray := prog_1_method_49_code
def yX11_totalOf : MethodName := ⟨RX11, "totalOf", "(II)I"⟩
abbrev cX11_hear : ByteArray := prog_1_method_50_code
def yX11_hear : MethodName := ⟨RX11, "hear", "(I)J"⟩
abbrev cX11_isKnown : ByteArray := prog_1_method_51_code
def yX11_isKnown : MethodName := ⟨RX11, "isKnown", "(II)Z"⟩
abbrev cX11_isAsTold : ByteArray := prog_1_method_52_code
def yX11_isAsTold : MethodName := ⟨RX11, "isAsTold", "(III)Z"⟩
abbrev cX11_setBetween : ByteArray := prog_1_method_53_code
def yX11_setBetween : MethodName := ⟨RX11, "setBetween", "(III)I"⟩
abbrev cX11_lessened : ByteArray := prog_1_method_54_code
def yX11_lessened : MethodName := ⟨RX11, "lessened", "(IIZ)I"⟩
abbrev cX11_lotOfTen : ByteArray := prog_1_method_55_code
def yX11_lotOfTen : MethodName := ⟨RX11, "lotOfTen", "(II)I"⟩
abbrev cX11_stirred : ByteArray := prog_1_method_56_code
def yX11_stirred : MethodName := ⟨RX11, "stirred", "(II)I"⟩
def RX12 : String := "WorseSenateModel"
def TX12 : u_T := fun k => match k with
  | 0 => ("WorseSenateModel", "thrown", "I", false)
  | 1 => ("WorseSenateModel", "tape", "[B", true)
  | 2 => ("WorseSenateModel", "taped", "I", false)
  | 3 => ("WorseSenateModel", "text", "[B", true)
  | 4 => ("WorseSenateModel", "size", "I", false)
  | 5 => ("WorseSenateModel", "tKind", "[I", true)
  | 6 => ("WorseSenateModel", "tPlace", "[I", true)
  | 7 => ("WorseSenateModel", "tValue", "[I", true)
  | 8 => ("WorseSenateModel", "tName", "[J", true)
  | 9 => ("WorseSenateModel", "keys", "[J", true)
  | 10 => ("WorseSenateModel", "tokens", "I", false)
  | 11 => ("WorseSenateModel", "t", "I", false)
  | 12 => ("WorseSenateModel", "open", "I", false)
  | 13 => ("WorseSenateModel", "fault", "I", false)
  | 14 => ("WorseSenateModel", "faultPlace", "I", false)
  | 15 => ("WorseSenateModel", "worst", "I", false)
  | 16 => ("WorseSenateModel", "worstPlace", "I", false)
  | 17 => ("WorseSenateModel", "place", "I", false)
  | 18 => ("WorseSenateModel", "live", "I", false)
  | 19 => ("WorseSenateModel", "side", "I", false)
  | 20 => ("WorseSenateModel", "names", "I", false)
  | 21 => ("WorseSenateModel", "nameOf", "[J", true)
  | 22 => ("WorseSenateModel", "sides", "[I", true)
  | 23 => ("WorseSenateModel", "men", "[I", true)
  | 24 => ("WorseSenateModel", "sideTold", "[I", true)
  | 25 => ("WorseSenateModel", "skillOf", "[I", true)
  | 26 => ("WorseSenateModel", "slipOf", "[I", true)
  | 27 => ("WorseSenateModel", "coinsTold", "[I", true)
  | 28 => ("WorseSenateModel", "motions", "[I", true)
  | 29 => ("WorseSenateModel", "worthOf", "[I", true)
  | 30 => ("WorseSenateModel", "jurors", "[I", true)
  | 31 => ("WorseSenateModel", "leanOf", "[I", true)
  | 32 => ("WorseSenateModel", "seed", "[I", true)
  | 33 => ("WorseSenateModel", "lawFirst", "[I", true)
  | 34 => ("WorseSenateModel", "lawLast", "[I", true)
  | 35 => ("WorseSenateModel", "branches", "I", false)
  | 36 => ("WorseSenateModel", "hasTest", "[Z", true)
  | 37 => ("WorseSenateModel", "testFrom", "[I", true)
  | 38 => ("WorseSenateModel", "testMid", "[I", true)
  | 39 => ("WorseSenateModel", "testTo", "[I", true)
  | 40 => ("WorseSenateModel", "termTo", "[I", true)
  | 41 => ("WorseSenateModel", "codes", "I", false)
  | 42 => ("WorseSenateModel", "code", "[I", true)
  | 43 => ("WorseSenateModel", "codeInt", "[I", true)
  | 44 => ("WorseSenateModel", "waits", "[I", true)
  | 45 => ("WorseSenateModel", "waiting", "I", false)
  | 46 => ("WorseSenateModel", "variables", "[I", true)
  | 47 => ("WorseSenateModel", "pile", "[I", true)
  | 48 => ("WorseSenateModel", "isBroken", "Z", false)
  | 49 => ("WorseSenateModel", "now", "[I", true)
  | 50 => ("WorseSenateModel", "row", "[I", true)
  | 51 => ("WorseSenateModel", "lots", "I", false)
  | 52 => ("WorseSenateModel", "sumOf", "[I", true)
  | 53 => ("WorseSenateModel", "manyOf", "[I", true)
  | 54 => ("WorseSenateModel", "undos", "I", false)
  | 55 => ("WorseSenateModel", "history", "[I", true)
  | 56 => ("WorseSenateModel", "chooser", "[I", true)
  | 57 => ("WorseSenateModel", "choosers", "I", false)
  | 58 => ("WorseSenateModel", "chosenWay", "I", false)
  | 59 => ("WorseSenateModel", "chosenOften", "I", false)
  | 60 => ("WorseSenateModel", "fallsBy", "[I", true)
  | 61 => ("WorseSenateModel", "told", "I", false)
  | 62 => ("WorseSenateModel", "toldMan", "[I", true)
  | 63 => ("WorseSenateModel", "toldSum", "[I", true)
  | 64 => ("WorseSenateModel", "canBe", "[Z", true)
  | 65 => ("WorseSenateModel", "isHeld", "[Z", true)
  | _ => ("WorseSenateModel", "heldRows", "[I", true)
def tyX12 : Nat → FieldType := fun k => match k with
  | 0 => .int
  | 1 => .array .byte
  | 2 => .int
  | 3 => .array .byte
  | 4 => .int
  | 5 => .array .int
  | 6 => .array .int
  | 7 => .array .int
  | 8 => .array .long
  | 9 => .array .long
  | 10 => .int
  | 11 => .int
  | 12 => .int
  | 13 => .int
  | 14 => .int
  | 15 => .int
  | 16 => .int
  | 17 => .int
  | 18 => .int
  | 19 => .int
  | 20 => .int
  | 21 => .array .long
  | 22 => .array .int
  | 23 => .array .int
  | 24 => .array .int
  | 25 => .array .int
  | 26 => .array .int
  | 27 => .array .int
  | 28 => .array .int
  | 29 => .array .int
  | 30 => .array .int
  | 31 => .array .int
  | 32 => .array .int
  | 33 => .array .int
  | 34 => .array .int
  | 35 => .int
  | 36 => .array .boolean
  | 37 => .array .int
  | 38 => .array .int
  | 39 => .array .int
  | 40 => .array .int
  | 41 => .int
  | 42 => .array .int
  | 43 => .array .int
  | 44 => .array .int
  | 45 => .int
  | 46 => .array .int
  | 47 => .array .int
  | 48 => .boolean
  | 49 => .array .int
  | 50 => .array .int
  | 51 => .int
  | 52 => .array .int
  | 53 => .array .int
  | 54 => .int
  | 55 => .array .int
  | 56 => .array .int
  | 57 => .int
  | 58 => .int
  | 59 => .int
  | 60 => .array .int
  | 61 => .int
  | 62 => .array .int
  | 63 => .array .int
  | 64 => .array .boolean
  | 65 => .array .boolean
  | _ => .array .int
abbrev wsX120 : List Cond := u_ws RX12 TX12 67
theorem nmX12 : ∀ a, a < 67 → ∀ b, b < 67 → a ≠ b → (TX12 a).2.1 ≠ (TX12 b).2.1 := by decide +kernel
theorem tyX12_ok : ∀ k, k < 67 → parseFieldDescriptor (TX12 k).2.2.1 = some (tyX12 k) := by decide +kernel
abbrev cX12_init : ByteArray := prog_14_method_2_code
def yX12_init : MethodName := ⟨RX12, "<init>", "()V"⟩
abbrev cX12_feed : ByteArray := prog_14_method_3_code
def yX12_feed : MethodName := ⟨RX12, "feed", "(IIIII)I"⟩
abbrev cX12_put : ByteArray := prog_14_method_4_code
def yX12_put : MethodName := ⟨RX12, "put", "(I)V"⟩
abbrev cX12_back : ByteArray := prog_14_method_5_code
def yX12_back : MethodName := ⟨RX12, "back", "(I)I"⟩
abbrev cX12_byteAt : ByteArray := prog_14_method_6_code
def yX12_byteAt : MethodName := ⟨RX12, "byteAt", "(I)I"⟩
abbrev cX12_isDigit : ByteArray := prog_14_method_7_code
def yX12_isDigit : MethodName := ⟨RX12, "isDigit", "(I)Z"⟩
abbrev cX12_isLetter : ByteArray := prog_14_method_8_code
def yX12_isLetter : MethodName := ⟨RX12, "isLetter", "(I)Z"⟩
abbrev cX12_appends : ByteArray := prog_14_method_9_code
def yX12_appends : MethodName := ⟨RX12, "appends", "(JI)J"⟩
abbrev cX12_word : ByteArray := prog_14_method_10_code
def yX12_word : MethodName := ⟨RX12, "word", "(IIIIIII)J"⟩
abbrev cX12_token : ByteArray := prog_14_method_11_code
def yX12_token : MethodName := ⟨RX12, "token", "(IIIJ)V"⟩
abbrev cX12_cut : ByteArray := prog_14_method_12_code
def yX12_cut : MethodName := ⟨RX12, "cut", "()V"⟩
abbrev cX12_sign : ByteArray := prog_14_method_13_code
def yX12_sign : MethodName := ⟨RX12, "sign", "(III)I"⟩
abbrev cX12_is : ByteArray := prog_14_method_14_code
def yX12_is : MethodName := ⟨RX12, "is", "(I)Z"⟩
abbrev cX12_fail : ByteArray := prog_14_method_15_code
def yX12_fail : MethodName := ⟨RX12, "fail", "(I)V"⟩
abbrev cX12_wrong : ByteArray := prog_14_method_16_code
def yX12_wrong : MethodName := ⟨RX12, "wrong", "(II)V"⟩
abbrev cX12_goesOn : ByteArray := prog_14_method_17_code
def yX12_goesOn : MethodName := ⟨RX12, "goesOn", "()V"⟩
abbrev cX12_must : ByteArray := prog_14_method_18_code
def yX12_must : MethodName := ⟨RX12, "must", "(I)V"⟩
abbrev cX12_plain : ByteArray := prog_14_method_19_code
def yX12_plain : MethodName := ⟨RX12, "plain", "(I)V"⟩
abbrev cX12_read : ByteArray := prog_14_method_20_code
def yX12_read : MethodName := ⟨RX12, "read", "()I"⟩
abbrev cX12_place : ByteArray := prog_14_method_21_code
def yX12_place : MethodName := ⟨RX12, "place", "()I"⟩
abbrev cX12_areSides : ByteArray := prog_14_method_22_code
def yX12_areSides : MethodName := ⟨RX12, "areSides", "()Z"⟩
abbrev cX12_roomFor : ByteArray := prog_14_method_23_code
def yX12_roomFor : MethodName := ⟨RX12, "roomFor", "(II)V"⟩
abbrev cX12_tellOne : ByteArray := prog_14_method_24_code
def yX12_tellOne : MethodName := ⟨RX12, "tellOne", "()V"⟩
abbrev cX12_named : ByteArray := prog_14_method_25_code
def yX12_named : MethodName := ⟨RX12, "named", "()I"⟩
abbrev cX12_ends : ByteArray := prog_14_method_26_code
def yX12_ends : MethodName := ⟨RX12, "ends", "(I)V"⟩
abbrev cX12_bounded : ByteArray := prog_14_method_27_code
def yX12_bounded : MethodName := ⟨RX12, "bounded", "(II)I"⟩
abbrev cX12_tellMan : ByteArray := prog_14_method_28_code
def yX12_tellMan : MethodName := ⟨RX12, "tellMan", "()V"⟩
abbrev cX12_tellMotion : ByteArray := prog_14_method_29_code
def yX12_tellMotion : MethodName := ⟨RX12, "tellMotion", "()V"⟩
abbrev cX12_tellJuror : ByteArray := prog_14_method_30_code
def yX12_tellJuror : MethodName := ⟨RX12, "tellJuror", "()V"⟩
abbrev cX12_tellLaw : ByteArray := prog_14_method_31_code
def yX12_tellLaw : MethodName := ⟨RX12, "tellLaw", "(I)V"⟩
abbrev cX12_term : ByteArray := prog_14_method_32_code
def yX12_term : MethodName := ⟨RX12, "term", "()V"⟩
abbrev cX12_emit : ByteArray := prog_14_method_33_code
def yX12_emit : MethodName := ⟨RX12, "emit", "(II)V"⟩
abbrev cX12_comesOut : ByteArray := prog_14_method_34_code
def yX12_comesOut : MethodName := ⟨RX12, "comesOut", "(Z)V"⟩
abbrev cX12_expression : ByteArray := prog_14_method_35_code
def yX12_expression : MethodName := ⟨RX12, "expression", "()V"⟩
abbrev cX12_unit : ByteArray := prog_14_method_36_code
def yX12_unit : MethodName := ⟨RX12, "unit", "()V"⟩
abbrev cX12_termOf : ByteArray := prog_14_method_37_code
def yX12_termOf : MethodName := ⟨RX12, "termOf", "(II)I"⟩
abbrev cX12_in : ByteArray := prog_14_method_38_code
def yX12_in : MethodName := ⟨RX12, "in", "(III)Z"⟩
abbrev cX12_bits : ByteArray := prog_14_method_39_code
def yX12_bits : MethodName := ⟨RX12, "bits", "(I)I"⟩
abbrev cX12_isMan : ByteArray := prog_14_method_40_code
def yX12_isMan : MethodName := ⟨RX12, "isMan", "(I)Z"⟩
abbrev cX12_isMotion : ByteArray := prog_14_method_41_code
def yX12_isMotion : MethodName := ⟨RX12, "isMotion", "(I)Z"⟩
abbrev cX12_isSide : ByteArray := prog_14_method_42_code
def yX12_isSide : MethodName := ⟨RX12, "isSide", "(I)Z"⟩
abbrev cX12_begins : ByteArray := prog_14_method_43_code
def yX12_begins : MethodName := ⟨RX12, "begins", "()V"⟩
abbrev cX12_keepsRow : ByteArray := prog_14_method_44_code
def yX12_keepsRow : MethodName := ⟨RX12, "keepsRow", "()V"⟩
abbrev cX12_copies : ByteArray := prog_14_method_45_code
def yX12_copies : MethodName := ⟨RX12, "copies", "()V"⟩
abbrev cX12_mixed : ByteArray := prog_14_method_46_code
def yX12_mixed : MethodName := ⟨RX12, "mixed", "(II)I"⟩
abbrev cX12_slips : ByteArray := prog_14_method_47_code
def yX12_slips : MethodName := ⟨RX12, "slips", "(I)Z"⟩
abbrev cX12_pleadsFor : ByteArray := prog_14_method_48_code
def yX12_pleadsFor : MethodName := ⟨RX12, "pleadsFor", "(I)I"⟩
abbrev cX12_looks : ByteArray := prog_14_method_49_code
def yX12_looks : MethodName := ⟨RX12, "looks", "(III)V"⟩
abbrev cX12_asks : ByteArray := prog_14_method_50_code
def yX12_asks : MethodName := ⟨RX12, "asks", "(IIII)I"⟩
abbrev cX12_lawTells : ByteArray := prog_14_method_51_code
def yX12_lawTells : MethodName := ⟨RX12, "lawTells", "(I)I"⟩
abbrev cX12_goodOf : ByteArray := prog_14_method_52_code
def yX12_goodOf : MethodName := ⟨RX12, "goodOf", "(III)I"⟩
abbrev cX12_goodNow : ByteArray := prog_14_method_53_code
def yX12_goodNow : MethodName := ⟨RX12, "goodNow", "(II)I"⟩
abbrev cX12_markBy : ByteArray := prog_14_method_54_code
def yX12_markBy : MethodName := ⟨RX12, "markBy", "(IIIII)I"⟩
abbrev cX12_sumBy : ByteArray := prog_14_method_55_code
def yX12_sumBy : MethodName := ⟨RX12, "sumBy", "(IIIII)I"⟩
abbrev cX12_sumNow : ByteArray := prog_14_method_56_code
def yX12_sumNow : MethodName := ⟨RX12, "sumNow", "(II)I"⟩
abbrev cX12_speakers : ByteArray := prog_14_method_57_code
def yX12_speakers : MethodName := ⟨RX12, "speakers", "(I)I"⟩
abbrev cX12_fillsSums : ByteArray := prog_14_method_58_code
def yX12_fillsSums : MethodName := ⟨RX12, "fillsSums", "(III)V"⟩
abbrev cX12_meanOf : ByteArray := prog_14_method_59_code
def yX12_meanOf : MethodName := ⟨RX12, "meanOf", "(I)I"⟩
abbrev cX12_bestSide : ByteArray := prog_14_method_60_code
def yX12_bestSide : MethodName := ⟨RX12, "bestSide", "()I"⟩
abbrev cX12_fallsTo : ByteArray := prog_14_method_61_code
def yX12_fallsTo : MethodName := ⟨RX12, "fallsTo", "(II)I"⟩
abbrev cX12_fineOf : ByteArray := prog_14_method_62_code
def yX12_fineOf : MethodName := ⟨RX12, "fineOf", "(II)I"⟩
abbrev cX12_silences : ByteArray := prog_14_method_63_code
def yX12_silences : MethodName := ⟨RX12, "silences", "(I)V"⟩
abbrev cX12_sits : ByteArray := prog_14_method_64_code
def yX12_sits : MethodName := ⟨RX12, "sits", "(I)I"⟩
abbrev cX12_man : ByteArray := prog_14_method_65_code
def yX12_man : MethodName := ⟨RX12, "man", "(II)I"⟩
abbrev cX12_motion : ByteArray := prog_14_method_66_code
def yX12_motion : MethodName := ⟨RX12, "motion", "(II)I"⟩
abbrev cX12_argues : ByteArray := prog_14_method_67_code
def yX12_argues : MethodName := ⟨RX12, "argues", "(IIZ)I"⟩
abbrev cX12_mark : ByteArray := prog_14_method_68_code
def yX12_mark : MethodName := ⟨RX12, "mark", "(IIZ)I"⟩
abbrev cX12_sum : ByteArray := prog_14_method_69_code
def yX12_sum : MethodName := ⟨RX12, "sum", "(IZ)I"⟩
abbrev cX12_keeps : ByteArray := prog_14_method_70_code
def yX12_keeps : MethodName := ⟨RX12, "keeps", "()V"⟩
abbrev cX12_speak : ByteArray := prog_14_method_71_code
def yX12_speak : MethodName := ⟨RX12, "speak", "(III)Z"⟩
abbrev cX12_praise : ByteArray := prog_14_method_72_code
def yX12_praise : MethodName := ⟨RX12, "praise", "(I)I"⟩
abbrev cX12_reads : ByteArray := prog_14_method_73_code
def yX12_reads : MethodName := ⟨RX12, "reads", "(II)I"⟩
abbrev cX12_swears : ByteArray := prog_14_method_74_code
def yX12_swears : MethodName := ⟨RX12, "swears", "(II)V"⟩
abbrev cX12_swear : ByteArray := prog_14_method_75_code
def yX12_swear : MethodName := ⟨RX12, "swear", "(II)Z"⟩
abbrev cX12_session : ByteArray := prog_14_method_76_code
def yX12_session : MethodName := ⟨RX12, "session", "(I)I"⟩
abbrev cX12_undo : ByteArray := prog_14_method_77_code
def yX12_undo : MethodName := ⟨RX12, "undo", "()Z"⟩
abbrev cX12_now : ByteArray := prog_14_method_78_code
def yX12_now : MethodName := ⟨RX12, "now", "(II)I"⟩
abbrev cX12_common : ByteArray := prog_14_method_79_code
def yX12_common : MethodName := ⟨RX12, "common", "(II)I"⟩
abbrev cX12_tens : ByteArray := prog_14_method_80_code
def yX12_tens : MethodName := ⟨RX12, "tens", "(I)I"⟩
abbrev cX12_oftenFalls : ByteArray := prog_14_method_81_code
def yX12_oftenFalls : MethodName := ⟨RX12, "oftenFalls", "(II)I"⟩
abbrev cX12_lineOf : ByteArray := prog_14_method_82_code
def yX12_lineOf : MethodName := ⟨RX12, "lineOf", "(IIZ)I"⟩
abbrev cX12_isAsked : ByteArray := prog_14_method_83_code
def yX12_isAsked : MethodName := ⟨RX12, "isAsked", "(II)Z"⟩
abbrev cX12_likely : ByteArray := prog_14_method_84_code
def yX12_likely : MethodName := ⟨RX12, "likely", "(IIZ)I"⟩
abbrev cX12_change : ByteArray := prog_14_method_85_code
def yX12_change : MethodName := ⟨RX12, "change", "(III)I"⟩
abbrev cX12_setsManners : ByteArray := prog_14_method_86_code
def yX12_setsManners : MethodName := ⟨RX12, "setsManners", "(I)V"⟩
abbrev cX12_fillsChosen : ByteArray := prog_14_method_87_code
def yX12_fillsChosen : MethodName := ⟨RX12, "fillsChosen", "(II)V"⟩
abbrev cX12_choose : ByteArray := prog_14_method_88_code
def yX12_choose : MethodName := ⟨RX12, "choose", "(III)I"⟩
abbrev cX12_chosen : ByteArray := prog_14_method_89_code
def yX12_chosen : MethodName := ⟨RX12, "chosen", "(IIZ)I"⟩
abbrev cX12_hasBy : ByteArray := prog_14_method_90_code
def yX12_hasBy : MethodName := ⟨RX12, "hasBy", "(III)I"⟩
abbrev cX12_isResting : ByteArray := prog_14_method_91_code
def yX12_isResting : MethodName := ⟨RX12, "isResting", "(III)Z"⟩
abbrev cX12_mumble : ByteArray := prog_14_method_92_code
def yX12_mumble : MethodName := ⟨RX12, "mumble", "(II)I"⟩
abbrev cX12_apartNow : ByteArray := prog_14_method_93_code
def yX12_apartNow : MethodName := ⟨RX12, "apartNow", "()I"⟩
abbrev cX12_jury : ByteArray := prog_14_method_94_code
def yX12_jury : MethodName := ⟨RX12, "jury", "(III)I"⟩
abbrev cX12_say : ByteArray := prog_14_method_95_code
def yX12_say : MethodName := ⟨RX12, "say", "(II)I"⟩
abbrev cX12_fine : ByteArray := prog_14_method_96_code
def yX12_fine : MethodName := ⟨RX12, "fine", "(IZ)I"⟩
abbrev cX12_ahead : ByteArray := prog_14_method_97_code
def yX12_ahead : MethodName := ⟨RX12, "ahead", "(I)I"⟩
abbrev cX12_givenBy : ByteArray := prog_14_method_98_code
def yX12_givenBy : MethodName := ⟨RX12, "givenBy", "(II)I"⟩
abbrev cX12_harsh : ByteArray := prog_14_method_99_code
def yX12_harsh : MethodName := ⟨RX12, "harsh", "(IZ)I"⟩
abbrev cX12_praiseFor : ByteArray := prog_14_method_100_code
def yX12_praiseFor : MethodName := ⟨RX12, "praiseFor", "(III)I"⟩
abbrev cX12_old : ByteArray := prog_14_method_101_code
def yX12_old : MethodName := ⟨RX12, "old", "(II)I"⟩
abbrev cX12_year : ByteArray := prog_14_method_102_code
def yX12_year : MethodName := ⟨RX12, "year", "(II)I"⟩
abbrev cX12_tell : ByteArray := prog_14_method_103_code
def yX12_tell : MethodName := ⟨RX12, "tell", "(II)I"⟩
abbrev cX12_forget : ByteArray := prog_14_method_104_code
def yX12_forget : MethodName := ⟨RX12, "forget", "()I"⟩
abbrev cX12_isSo : ByteArray := prog_14_method_105_code
def yX12_isSo : MethodName := ⟨RX12, "isSo", "(III)Z"⟩
abbrev cX12_speakingAll : ByteArray := prog_14_method_106_code
def yX12_speakingAll : MethodName := ⟨RX12, "speakingAll", "()I"⟩
abbrev cX12_slipped : ByteArray := prog_14_method_107_code
def yX12_slipped : MethodName := ⟨RX12, "slipped", "(II)I"⟩
abbrev cX12_thinks : ByteArray := prog_14_method_108_code
def yX12_thinks : MethodName := ⟨RX12, "thinks", "(II)I"⟩
abbrev cX12_hold : ByteArray := prog_14_method_109_code
def yX12_hold : MethodName := ⟨RX12, "hold", "(I)Z"⟩
abbrev cX12_restore : ByteArray := prog_14_method_110_code
def yX12_restore : MethodName := ⟨RX12, "restore", "(I)Z"⟩
abbrev cX12_count : ByteArray := prog_14_method_111_code
def yX12_count : MethodName := ⟨RX12, "count", "(I)I"⟩
def RJ11 : String := "java/lang/Character"
def TJ11 : u_T := fun k => match k with
  | _ => ("", "", "", false)
def tyJ11 : Nat → FieldType := fun k => match k with
  | _ => .int
abbrev wsJ110 : List Cond := u_ws RJ11 TJ11 0
theorem nmJ11 : ∀ a, a < 0 → ∀ b, b < 0 → a ≠ b → (TJ11 a).2.1 ≠ (TJ11 b).2.1 := by decide +kernel
theorem tyJ11_ok : ∀ k, k < 0 → parseFieldDescriptor (TJ11 k).2.2.1 = some (tyJ11 k) := by decide +kernel
abbrev cJ11_isValidCodePoint_9a6ad : ByteArray := prog_15_method_11_code
def yJ11_isValidCodePoint_9a6ad : MethodName := ⟨RJ11, "isValidCodePoint", "(I)Z"⟩
abbrev cJ11_highSurrogate_5068e : ByteArray := prog_15_method_28_code
def yJ11_highSurrogate_5068e : MethodName := ⟨RJ11, "highSurrogate", "(I)C"⟩
abbrev cJ11_lowSurrogate_5068e : ByteArray := prog_15_method_29_code
def yJ11_lowSurrogate_5068e : MethodName := ⟨RJ11, "lowSurrogate", "(I)C"⟩
def RJ6 : String := "java/lang/Integer"
def TJ6 : u_T := fun k => match k with
  | _ => ("", "", "", false)
def tyJ6 : Nat → FieldType := fun k => match k with
  | _ => .int
abbrev wsJ60 : List Cond := u_ws RJ6 TJ6 0
theorem nmJ6 : ∀ a, a < 0 → ∀ b, b < 0 → a ≠ b → (TJ6 a).2.1 ≠ (TJ6 b).2.1 := by decide +kernel
theorem tyJ6_ok : ∀ k, k < 0 → parseFieldDescriptor (TJ6 k).2.2.1 = some (tyJ6 k) := by decide +kernel
abbrev cJ6_numberOfTrailingZeros_0f7a4 : ByteArray := prog_16_method_48_code
def yJ6_numberOfTrailingZeros_0f7a4 : MethodName := ⟨RJ6, "numberOfTrailingZeros", "(I)I"⟩
abbrev cJ6_bitCount_0f7a4 : ByteArray := prog_16_method_49_code
def yJ6_bitCount_0f7a4 : MethodName := ⟨RJ6, "bitCount", "(I)I"⟩
def RJ9 : String := "java/lang/Math"
def TJ9 : u_T := fun k => match k with
  | _ => ("", "", "", false)
def tyJ9 : Nat → FieldType := fun k => match k with
  | _ => .int
abbrev wsJ90 : List Cond := u_ws RJ9 TJ9 0
theorem nmJ9 : ∀ a, a < 0 → ∀ b, b < 0 → a ≠ b → (TJ9 a).2.1 ≠ (TJ9 b).2.1 := by decide +kernel
theorem tyJ9_ok : ∀ k, k < 0 → parseFieldDescriptor (TJ9 k).2.2.1 = some (tyJ9 k) := by decide +kernel
abbrev cJ9_max_7cf53 : ByteArray := prog_17_method_65_code
def yJ9_max_7cf53 : MethodName := ⟨RJ9, "max", "(II)I"⟩
abbrev cJ9_min_7cf53 : ByteArray := prog_17_method_69_code
def yJ9_min_7cf53 : MethodName := ⟨RJ9, "min", "(II)I"⟩
def RJ0 : String := "java/lang/String"
def TJ0 : u_T := fun k => match k with
  | _ => ("", "", "", false)
def tyJ0 : Nat → FieldType := fun k => match k with
  | _ => .int
abbrev wsJ00 : List Cond := u_ws RJ0 TJ0 0
theorem nmJ0 : ∀ a, a < 0 → ∀ b, b < 0 → a ≠ b → (TJ0 a).2.1 ≠ (TJ0 b).2.1 := by decide +kernel
theorem tyJ0_ok : ∀ k, k < 0 → parseFieldDescriptor (TJ0 k).2.2.1 = some (tyJ0 k) := by decide +kernel
abbrev cJ0_length_8abf5 : ByteArray := prog_18_method_54_code
def yJ0_length_8abf5 : MethodName := ⟨RJ0, "length", "()I"⟩
abbrev cJ0_charAt_5068e : ByteArray := prog_18_method_56_code
def yJ0_charAt_5068e : MethodName := ⟨RJ0, "charAt", "(I)C"⟩
abbrev cJ0_indexOf_0f7a4 : ByteArray := prog_18_method_79_code
def yJ0_indexOf_0f7a4 : MethodName := ⟨RJ0, "indexOf", "(I)I"⟩
abbrev cJ0_indexOf_7cf53 : ByteArray := prog_18_method_80_code
def yJ0_indexOf_7cf53 : MethodName := ⟨RJ0, "indexOf", "(II)I"⟩
abbrev cJ0_coder_7d493 : ByteArray := prog_18_method_152_code
def yJ0_coder_7d493 : MethodName := ⟨RJ0, "coder", "()B"⟩
abbrev cJ0_isLatin1_aae02 : ByteArray := prog_18_method_154_code
def yJ0_isLatin1_aae02 : MethodName := ⟨RJ0, "isLatin1", "()Z"⟩
abbrev cJ0_checkIndex_df160 : ByteArray := prog_18_method_155_code
def yJ0_checkIndex_df160 : MethodName := ⟨RJ0, "checkIndex", "(II)V"⟩
abbrev cJ0_checkBoundsBeginEnd_23922 : ByteArray := prog_18_method_158_code
def yJ0_checkBoundsBeginEnd_23922 : MethodName := ⟨RJ0, "checkBoundsBeginEnd", "(III)V"⟩
def RJ1 : String := "java/lang/StringLatin1"
def TJ1 : u_T := fun k => match k with
  | _ => ("", "", "", false)
def tyJ1 : Nat → FieldType := fun k => match k with
  | _ => .int
abbrev wsJ10 : List Cond := u_ws RJ1 TJ1 0
theorem nmJ1 : ∀ a, a < 0 → ∀ b, b < 0 → a ≠ b → (TJ1 a).2.1 ≠ (TJ1 b).2.1 := by decide +kernel
theorem tyJ1_ok : ∀ k, k < 0 → parseFieldDescriptor (TJ1 k).2.2.1 = some (tyJ1 k) := by decide +kernel
abbrev cJ1_charAt_3b067 : ByteArray := prog_19_method_2_code
def yJ1_charAt_3b067 : MethodName := ⟨RJ1, "charAt", "([BI)C"⟩
abbrev cJ1_canEncode_9a6ad : ByteArray := prog_19_method_4_code
def yJ1_canEncode_9a6ad : MethodName := ⟨RJ1, "canEncode", "(I)Z"⟩
abbrev cJ1_indexOf_4cfef : ByteArray := prog_19_method_22_code
def yJ1_indexOf_4cfef : MethodName := ⟨RJ1, "indexOf", "([BIII)I"⟩
abbrev cJ1_indexOfChar_4cfef : ByteArray := prog_19_method_23_code
def yJ1_indexOfChar_4cfef : MethodName := ⟨RJ1, "indexOfChar", "([BIII)I"⟩
def RJ2 : String := "java/lang/StringUTF16"
def TJ2 : u_T := fun k => match k with
  | _ => ("", "", "", false)
def tyJ2 : Nat → FieldType := fun k => match k with
  | _ => .int
abbrev wsJ20 : List Cond := u_ws RJ2 TJ2 0
theorem nmJ2 : ∀ a, a < 0 → ∀ b, b < 0 → a ≠ b → (TJ2 a).2.1 ≠ (TJ2 b).2.1 := by decide +kernel
theorem tyJ2_ok : ∀ k, k < 0 → parseFieldDescriptor (TJ2 k).2.2.1 = some (tyJ2 k) := by decide +kernel
abbrev cJ2_getChar_3b067 : ByteArray := prog_20_method_5_code
def yJ2_getChar_3b067 : MethodName := ⟨RJ2, "getChar", "([BI)C"⟩
abbrev cJ2_length_9d52b : ByteArray := prog_20_method_6_code
def yJ2_length_9d52b : MethodName := ⟨RJ2, "length", "([B)I"⟩
abbrev cJ2_indexOf_4cfef : ByteArray := prog_20_method_40_code
def yJ2_indexOf_4cfef : MethodName := ⟨RJ2, "indexOf", "([BIII)I"⟩
abbrev cJ2_indexOfChar_4cfef : ByteArray := prog_20_method_47_code
def yJ2_indexOfChar_4cfef : MethodName := ⟨RJ2, "indexOfChar", "([BIII)I"⟩
abbrev cJ2_indexOfCharUnsafe_4cfef : ByteArray := prog_20_method_48_code
def yJ2_indexOfCharUnsafe_4cfef : MethodName := ⟨RJ2, "indexOfCharUnsafe", "([BIII)I"⟩
abbrev cJ2_indexOfSupplementary_4cfef : ByteArray := prog_20_method_49_code
def yJ2_indexOfSupplementary_4cfef : MethodName := ⟨RJ2, "indexOfSupplementary", "([BIII)I"⟩
abbrev cJ2_charAt_3b067 : ByteArray := prog_20_method_83_code
def yJ2_charAt_3b067 : MethodName := ⟨RJ2, "charAt", "([BI)C"⟩
abbrev cJ2_checkIndex_2214a : ByteArray := prog_20_method_91_code
def yJ2_checkIndex_2214a : MethodName := ⟨RJ2, "checkIndex", "(I[B)V"⟩
abbrev cJ2_checkBoundsBeginEnd_d044e : ByteArray := prog_20_method_93_code
def yJ2_checkBoundsBeginEnd_d044e : MethodName := ⟨RJ2, "checkBoundsBeginEnd", "(II[B)V"⟩
def RJ10 : String := "java/lang/System"
def TJ10 : u_T := fun k => match k with
  | _ => ("", "", "", false)
def tyJ10 : Nat → FieldType := fun k => match k with
  | _ => .int
abbrev wsJ100 : List Cond := u_ws RJ10 TJ10 0
theorem nmJ10 : ∀ a, a < 0 → ∀ b, b < 0 → a ≠ b → (TJ10 a).2.1 ≠ (TJ10 b).2.1 := by decide +kernel
theorem tyJ10_ok : ∀ k, k < 0 → parseFieldDescriptor (TJ10 k).2.2.1 = some (tyJ10 k) := by decide +kernel
def RJ3 : String := "jdk/internal/util/Preconditions"
def TJ3 : u_T := fun k => match k with
  | _ => ("", "", "", false)
def tyJ3 : Nat → FieldType := fun k => match k with
  | _ => .int
abbrev wsJ30 : List Cond := u_ws RJ3 TJ3 0
theorem nmJ3 : ∀ a, a < 0 → ∀ b, b < 0 → a ≠ b → (TJ3 a).2.1 ≠ (TJ3 b).2.1 := by decide +kernel
theorem tyJ3_ok : ∀ k, k < 0 → parseFieldDescriptor (TJ3 k).2.2.1 = some (tyJ3 k) := by decide +kernel
abbrev cJ3_checkIndex_8e157 : ByteArray := prog_22_method_11_code
def yJ3_checkIndex_8e157 : MethodName := ⟨RJ3, "checkIndex", "(IILjava/util/function/BiFunction;)I"⟩
abbrev cJ3_checkFromToIndex_8c36e : ByteArray := prog_22_method_12_code
def yJ3_checkFromToIndex_8c36e : MethodName := ⟨RJ3, "checkFromToIndex", "(IIILjava/util/function/BiFunction;)I"⟩
def RL : String := "WorseSenateLaw"
abbrev cL_law : ByteArray := code
def yL_law : MethodName := ⟨RL, "law", "([I)Z"⟩
theorem inlX0 : ∀ w ∈ wsX00, w ∈ wsL_law := fun _ h => List.mem_append_left _ (List.mem_append_left _ (List.mem_append_left _ (List.mem_append_left _ (List.mem_append_left _ (List.mem_append_right _ h)))))
theorem inX0 : ∀ w ∈ wsX00, w ∈ lw_tbl := fun w h => wsL_law_in w (inlX0 w h)
theorem inlX1 : ∀ w ∈ wsX10, w ∈ wsL_law := fun _ h => List.mem_append_left _ (List.mem_append_left _ (List.mem_append_left _ (List.mem_append_right _ h)))
theorem inX1 : ∀ w ∈ wsX10, w ∈ lw_tbl := fun w h => wsL_law_in w (inlX1 w h)
theorem inlX2 : ∀ w ∈ wsX20, w ∈ wsL_law := fun _ h => List.mem_append_left _ (List.mem_append_right _ h)
theorem inX2 : ∀ w ∈ wsX20, w ∈ lw_tbl := fun w h => wsL_law_in w (inlX2 w h)
theorem inlX3 : ∀ w ∈ wsX30, w ∈ wsL_law := fun _ h => List.mem_append_left _ (List.mem_append_left _ (List.mem_append_left _ (List.mem_append_left _ (List.mem_append_left _ (List.mem_append_left _ (List.mem_append_left _ (List.mem_append_right _ h)))))))
theorem inX3 : ∀ w ∈ wsX30, w ∈ lw_tbl := fun w h => wsL_law_in w (inlX3 w h)
theorem inlX4 : ∀ w ∈ wsX40, w ∈ wsL_law := fun _ h => List.mem_append_left _ (List.mem_append_left _ (List.mem_append_left _ (List.mem_append_left _ (List.mem_append_left _ (List.mem_append_left _ (List.mem_append_left _ (List.mem_append_left _ (List.mem_append_left _ (List.mem_append_left _ (List.mem_append_right _ h))))))))))
theorem inX4 : ∀ w ∈ wsX40, w ∈ lw_tbl := fun w h => wsL_law_in w (inlX4 w h)
theorem inlX5 : ∀ w ∈ wsX50, w ∈ wsL_law := fun _ h => List.mem_append_left _ (List.mem_append_left _ (List.mem_append_left _ (List.mem_append_left _ (List.mem_append_left _ (List.mem_append_left _ (List.mem_append_left _ (List.mem_append_left _ (List.mem_append_left _ (List.mem_append_right _ h)))))))))
theorem inX5 : ∀ w ∈ wsX50, w ∈ lw_tbl := fun w h => wsL_law_in w (inlX5 w h)
theorem inlX6 : ∀ w ∈ wsX60, w ∈ wsL_law := fun _ h => List.mem_append_left _ (List.mem_append_left _ (List.mem_append_left _ (List.mem_append_left _ (List.mem_append_right _ h))))
theorem inX6 : ∀ w ∈ wsX60, w ∈ lw_tbl := fun w h => wsL_law_in w (inlX6 w h)
theorem inlX7 : ∀ w ∈ wsX70, w ∈ wsL_law := fun _ h => List.mem_append_left _ (List.mem_append_left _ (List.mem_append_left _ (List.mem_append_left _ (List.mem_append_left _ (List.mem_append_left _ (List.mem_append_right _ h))))))
theorem inX7 : ∀ w ∈ wsX70, w ∈ lw_tbl := fun w h => wsL_law_in w (inlX7 w h)
theorem inlX8 : ∀ w ∈ wsX80, w ∈ wsL_law := fun _ h => List.mem_append_left _ (List.mem_append_left _ (List.mem_append_left _ (List.mem_append_left _ (List.mem_append_left _ (List.mem_append_left _ (List.mem_append_left _ (List.mem_append_left _ (List.mem_append_right _ h))))))))
theorem inX8 : ∀ w ∈ wsX80, w ∈ lw_tbl := fun w h => wsL_law_in w (inlX8 w h)
theorem inX9 : ∀ w ∈ wsX90, w ∈ lw_tbl := by decide +kernel
theorem inlX10 : ∀ w ∈ wsX100, w ∈ wsL_law := fun _ h => List.mem_append_left _ (List.mem_append_left _ (List.mem_append_right _ h))
theorem inX10 : ∀ w ∈ wsX100, w ∈ lw_tbl := fun w h => wsL_law_in w (inlX10 w h)
theorem inlX11 : ∀ w ∈ wsX110, w ∈ wsL_law := fun _ h => List.mem_append_left _ (List.mem_append_left _ (List.mem_append_left _ (List.mem_append_left _ (List.mem_append_left _ (List.mem_append_left _ (List.mem_append_left _ (List.mem_append_left _ (List.mem_append_left _ (List.mem_append_left _ (List.mem_append_left _ (List.mem_append_left _ (List.mem_append_right _ h))))))))))))
theorem inX11 : ∀ w ∈ wsX110, w ∈ lw_tbl := fun w h => wsL_law_in w (inlX11 w h)
theorem inlX12 : ∀ w ∈ wsX120, w ∈ wsL_law := fun _ h => List.mem_append_left _ (List.mem_append_left _ (List.mem_append_left _ (List.mem_append_left _ (List.mem_append_left _ (List.mem_append_left _ (List.mem_append_left _ (List.mem_append_left _ (List.mem_append_left _ (List.mem_append_left _ (List.mem_append_left _ (List.mem_append_right _ h)))))))))))
theorem inX12 : ∀ w ∈ wsX120, w ∈ lw_tbl := fun w h => wsL_law_in w (inlX12 w h)
theorem inJ11 : ∀ w ∈ wsJ110, w ∈ lw_tbl := by decide +kernel
theorem inJ6 : ∀ w ∈ wsJ60, w ∈ lw_tbl := by decide +kernel
theorem inJ9 : ∀ w ∈ wsJ90, w ∈ lw_tbl := by decide +kernel
theorem inJ0 : ∀ w ∈ wsJ00, w ∈ lw_tbl := by decide +kernel
theorem inJ1 : ∀ w ∈ wsJ10, w ∈ lw_tbl := by decide +kernel
theorem inJ2 : ∀ w ∈ wsJ20, w ∈ lw_tbl := by decide +kernel
theorem inJ10 : ∀ w ∈ wsJ100, w ∈ lw_tbl := by decide +kernel
theorem inJ3 : ∀ w ∈ wsJ30, w ∈ lw_tbl := by decide +kernel
abbrev vwCl : List vw_C := [(RX0, TX0, 18), (RX1, TX1, 7), (RX2, TX2, 7), (RX3, TX3, 5), (RX4, TX4, 4), (RX5, TX5, 9), (RX6, TX6, 5), (RX7, TX7, 11), (RX8, TX8, 1), (RX10, TX10, 4), (RX11, TX11, 12), (RX12, TX12, 67)]
/-! ===== END printed: names ===== -/

