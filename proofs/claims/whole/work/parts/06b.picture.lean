/-! the picture: the true heap holds what the pure machine says; locals; what stays -/
/-- classes and slots; classes of rows of ints, bytes, booleans, longs, of rows; the first address; the heap below; the old cells' addresses by id; the script -/
abbrev gm_G : Type := va_G × (ClassId × ClassId × ClassId × ClassId × ClassId) × Nat × Heap × (Nat → Nat) × Nat × (Nat → Int32) × Option Nat
def gm_D (g : gm_G) : va_G := g.1
def gm_bs (g : gm_G) : Nat := g.2.2.1
def gm_H0 (g : gm_G) : Heap := g.2.2.2.1
def gm_ao (g : gm_G) : Nat → Nat := g.2.2.2.2.1
def gm_sl (g : gm_G) : Nat := g.2.2.2.2.2.1
def gm_sx (g : gm_G) : Nat → Int32 := g.2.2.2.2.2.2.1
def gm_fm (g : gm_G) : Option Nat := g.2.2.2.2.2.2.2
def gm_ty (g : gm_G) : List (ClassId × FieldType) := [(g.2.1.1, .int), (g.2.1.2.1, .byte), (g.2.1.2.2.1, .boolean), (g.2.1.2.2.2.1, .long), (g.2.1.2.2.2.2, .array .int)]
def gm_ad (g : gm_G) (a : Nat) : Nat := if a < 1000 then gm_bs g + a else gm_ao g a
def gm_tr (g : gm_G) (v : Value) : Value := match v with
  | .ref a => if a = 1030 then va_rf (gm_fm g) else .ref (gm_ad g a)
  | v => v
theorem gm_tr_ref {g : gm_G} {a : Nat} (h : a ≠ 1030) : gm_tr g (.ref a) = .ref (gm_ad g a) := if_neg h
def gm_A (g : gm_G) : Nat → Prop := fun q => gm_bs g ≤ q
def gm_fv (g : gm_G) (rf : gm_R) (im : gm_I) (lm : gm_L) (o ci k : Nat) : Value := match gm_fy ci k with
  | 0 => .int (im o k)
  | 3 => .int (im o k)
  | 1 => .long (lm o k)
  | _ => va_rf ((rf o k).map (gm_ad g))
def gm_ce (g : gm_G) (rf : gm_R) (im : gm_I) (lm : gm_L) (o : Nat) : va_E := match gm_LAY.getD o (9, 0) with
  | (0, ci) => .inr (ci, (List.range (gm_FY.getD ci []).length).map (gm_fv g rf im lm o ci))
  | (1, z) => .inl (g.2.1.1, z, .inl (im o))
  | (2, z) => .inl (g.2.1.2.1, z, .inl (im o))
  | (3, z) => .inl (g.2.1.2.2.1, z, .inl (im o))
  | (4, z) => .inl (g.2.1.2.2.2.1, z, .inr (.inl (lm o)))
  | (_, z) => .inl (g.2.1.2.2.2.2, z, .inr (.inr (.inr (.inr (fun j => (rf o j).map (gm_ad g))))))
/-- the made cells stand in the heap from the first address on; below nothing changed; the script and the static rows are read as they are -/
def gm_P (g : gm_G) (n : Nat) (rf : gm_R) (im : gm_I) (lm : gm_L) (H : Heap) : Prop :=
  (∀ o, o < n → va_at (gm_D g) vwCl (gm_bs g + o, gm_ce g rf im lm o) H) ∧ H.size = gm_bs g + n ∧ n ≤ gm_LAY.length ∧ (∀ q, q < gm_bs g → H[q]? = (gm_H0 g)[q]?) ∧
  im 2000 0 = Int32.ofNat (gm_sl g) ∧ (∀ j, j < gm_sl g → im 1000 j = gm_sx g j) ∧ (∀ (j : Nat) (l : List Int32), gm_SA[j]? = some l → ∀ i, i < l.length → im (1001 + j) i = l.getD i 0) ∧ (∀ (j : Nat) (l : List Int32), gm_tx[j]? = some l → ∀ i, i < l.length → im (1020 + j) i = l.getD i 0)
theorem gm_LAY_len : gm_LAY.length = 128 := by decide +kernel
def gm_AO (U : State) : Prop := (Jvm.Cond.arrayOver (.array .int)).before #[] U = true
theorem gm_AO.moved {u U : State} (hvm : u.vm.Alike U.vm) (h : gm_AO u) : gm_AO U := arrayOver_alikeB hvm h
/-- what stays while a method runs: of its first state -/
def gm_Cx (g : gm_G) (U : State) : Prop :=
  va_K (gm_D g) vwCl (gm_ty g) U ∧ va_X (gm_ao g 1000) (gm_sl g) (gm_sx g) U (gm_H0 g) ∧ gm_ao g 1000 < gm_bs g ∧ gm_sl g ≤ 3072 ∧ (gm_H0 g).size = gm_bs g ∧
  (∀ j, j < 5 → va_Z "WorseSenate" (gm_sn (1001 + j)) "[I" (.ref (gm_ao g (1001 + j))) (gm_A g) U (gm_H0 g) ∧ va_T .int (gm_ao g (1001 + j)) ((gm_SA.getD j []).length) (fun i => .int ((gm_SA.getD j []).getD i 0)) (gm_A g) U (gm_H0 g)) ∧
  (∀ w ∈ lw_tbl, gm_nst w = true → va_Nw w U) ∧ vk_R "WorseSenate$Scanner" 9 "sides   man     motion  juror   seed    argues  marks   fines   if      then    else    skill   manner  slip    praise  day     good    lean    which   sworn   " (gm_ao g 1010) U ∧ vk_R "WorseSenate$Scanner" 62 ";=+-*/<()" (gm_ao g 1011) U ∧ vk_S 2 [160, 9] gm_tx (fun i => gm_ao g (1010 + i)) (fun i => gm_ao g (1020 + i)) (gm_A g) U (gm_H0 g) ∧ va_Z "java/lang/String" "COMPACT_STRINGS" "Z" (.int 1) (gm_A g) U (gm_H0 g) ∧ va_Z "jdk/internal/util/Preconditions" "SIOOBE_FORMATTER" "Ljava/util/function/BiFunction;" (va_rf (gm_fm g)) (gm_A g) U (gm_H0 g) ∧ gm_AO U
theorem gm_Cx.same {g : gm_G} {u U : State} (h : u.vm = U.vm) (hc : gm_Cx g u) : gm_Cx g U := by
  have hvm : u.vm.Alike U.vm := by rw [h]; exact Vm.Alike.refl _
  obtain ⟨h1, h2, h3, h4, h5, h6, h7, h8, h9, k1, k2, k3, k4⟩ := hc
  refine ⟨h1.moved hvm, h2.moved hvm, h3, h4, h5, fun j hj => ⟨(h6 j hj).1.moved hvm, (h6 j hj).2.moved hvm⟩, fun w hw hn => ?_, h8.same h.symm, h9.same h.symm, k1.moved hvm, k2.moved hvm, k3.moved hvm, k4.moved hvm⟩
  refine va_Nw.same ?_ h (h7 w hw hn)
  cases w <;> first | rfl | (simp [gm_nst] at hn)
theorem gm_Cx.warm {g : gm_G} {s U : State} (hW : s.WarmedH U.vm) (hc : gm_Cx g s) : gm_Cx g U := by
  have hvm : s.vm.Alike U.vm := hW.alike
  obtain ⟨h1, h2, h3, h4, h5, h6, h7, h8, h9, k1, k2, k3, k4⟩ := hc
  refine ⟨h1.moved hvm, h2.moved hvm, h3, h4, h5, fun j hj => ⟨(h6 j hj).1.moved hvm, (h6 j hj).2.moved hvm⟩, fun w hw hn => ?_, h8.warm hW, h9.warm hW, k1.moved hvm, k2.moved hvm, k3.moved hvm, k4.moved hvm⟩
  have hz := h7 w hw hn
  cases w <;> first | exact va_Nw.warmF hW hz | exact va_Nw.warmM hW hz | (simp [gm_nst] at hn)
section GML
variable {g : gm_G} {ls : Array Slot} {vs : List Value}
/-- locals: what is listed is held (null: unknown, or a long's second half) -/
def gm_tl (g : gm_G) (vs : List Value) : List (Nat × Value) := (List.range vs.length).filterMap (fun i => match (vs[i]? : Option Value) with
  | some Value.null => none
  | some v => some (i, gm_tr g v)
  | none => none)
theorem gm_tl_mem {i : Nat} {w : Value} : (i, w) ∈ gm_tl g vs ↔ ∃ v, vs[i]? = some v ∧ v ≠ .null ∧ w = gm_tr g v := by
  unfold gm_tl
  rw [List.mem_filterMap]
  constructor
  · rintro ⟨j, hj, hm⟩
    cases hv : vs[j]? with
    | none => simp [hv] at hm
    | some v =>
      simp only [hv] at hm
      cases v <;> simp at hm <;> (obtain ⟨rfl, rfl⟩ := hm; exact ⟨_, hv, by simp, rfl⟩)
  · rintro ⟨v, hv, hn, rfl⟩
    refine ⟨i, List.mem_range.mpr (List.getElem?_eq_some_iff.mp hv).1, ?_⟩
    simp only [hv]
def gm_lv (g : gm_G) (ls : Array Slot) (vs : List Value) : Prop := lv_has ls vs.length (gm_tl g vs)
theorem gm_lv_at (h : gm_lv g ls vs) {i : Nat} {v : Value} (hv : vs[i]? = some v) (hn : v ≠ .null) : ls[i]? = some (.val (gm_tr g v)) := h.2.2 (i, gm_tr g v) (gm_tl_mem.mpr ⟨v, hv, hn, rfl⟩)
theorem gm_tr_cat (v : Value) : (gm_tr g v).category = v.category := by
  cases v <;> first | rfl | skip
  rename_i a
  unfold gm_tr
  simp only
  split
  · cases gm_fm g <;> rfl
  · rfl
theorem gm_lv_s1 {nL i : Nat} {v : Value} {ws : List Value} (hs : gm_s1 vs i v = some ws) {w : Value} (hw : w = gm_tr g v) (hn : nL = vs.length) (h : lv_has ls nL ((i, w) :: (gm_tl g vs).filter (fun q => !(q.1 == i) && !(q.1 + 1 == i && q.2.category == 2)))) : gm_lv g ls ws := by
  subst hw hn
  unfold gm_s1 at hs
  split at hs
  · rename_i hc
    simp only [Bool.and_eq_true, decide_eq_true_eq] at hc
    cases hs
    refine ⟨by rw [List.length_set]; exact h.1, h.2.1, fun q hq => ?_⟩
    obtain ⟨j, u⟩ := q
    obtain ⟨x, hx, hxn, rfl⟩ := gm_tl_mem.mp hq
    refine h.2.2 _ ?_
    by_cases hj : j = i
    · subst hj
      rw [List.getElem?_set_self hc.1] at hx
      cases hx
      exact List.mem_cons_self
    · rw [List.getElem?_set_ne (fun q => hj q.symm)] at hx
      refine List.mem_cons_of_mem _ (List.mem_filter.mpr ⟨gm_tl_mem.mpr ⟨x, hx, hxn, rfl⟩, ?_⟩)
      have hp := hc.2
      simp only [Bool.and_eq_true, Bool.not_eq_true', beq_eq_false_iff_ne, ne_eq, hj, not_false_eq_true, true_and]
      rw [Bool.and_eq_false_iff]
      by_cases h1 : j + 1 = i
      · right
        subst h1
        simp only [gm_pv, hx] at hp
        rw [gm_tr_cat]
        simpa using hp
      · left
        simpa using h1
  · cases hs
theorem gm_lv_s2 {nL i : Nat} {v : Value} {ws : List Value} (hs : gm_s2 vs i v = some ws) {w : Value} (hw : w = gm_tr g v) (hn : nL = vs.length) (h : lv_has ls nL ((i, w) :: (gm_tl g vs).filter (fun q => !(q.1 == i) && (!(q.1 == i + 1) && !(q.1 + 1 == i && q.2.category == 2))))) : gm_lv g ls ws := by
  subst hw hn
  unfold gm_s2 at hs
  split at hs
  · rename_i hc
    simp only [Bool.and_eq_true, decide_eq_true_eq] at hc
    cases hs
    refine ⟨by rw [List.length_set, List.length_set]; exact h.1, h.2.1, fun q hq => ?_⟩
    obtain ⟨j, u⟩ := q
    obtain ⟨x, hx, hxn, rfl⟩ := gm_tl_mem.mp hq
    refine h.2.2 _ ?_
    by_cases h2 : j = i + 1
    · subst h2
      rw [List.getElem?_set_self (by rw [List.length_set]; exact hc.1)] at hx
      cases hx
      exact absurd rfl hxn
    · rw [List.getElem?_set_ne (fun q => h2 q.symm)] at hx
      by_cases hj : j = i
      · subst hj
        rw [List.getElem?_set_self (by omega)] at hx
        cases hx
        exact List.mem_cons_self
      · rw [List.getElem?_set_ne (fun q => hj q.symm)] at hx
        refine List.mem_cons_of_mem _ (List.mem_filter.mpr ⟨gm_tl_mem.mpr ⟨x, hx, hxn, rfl⟩, ?_⟩)
        have hp := hc.2
        simp only [Bool.and_eq_true, Bool.not_eq_true', beq_eq_false_iff_ne, ne_eq, hj, h2, not_false_eq_true, true_and]
        rw [Bool.and_eq_false_iff]
        by_cases h1 : j + 1 = i
        · right
          subst h1
          simp only [gm_pv, hx] at hp
          rw [gm_tr_cat]
          simpa using hp
        · left
          simpa using h1
  · cases hs
theorem gm_s1_lt {i : Nat} {v : Value} {ws : List Value} (hs : gm_s1 vs i v = some ws) : i < vs.length := by
  unfold gm_s1 at hs
  split at hs
  · rename_i hc
    simp only [Bool.and_eq_true, decide_eq_true_eq] at hc
    exact hc.1
  · cases hs
theorem gm_s2_lt {i : Nat} {v : Value} {ws : List Value} (hs : gm_s2 vs i v = some ws) : i + 1 < vs.length := by
  unfold gm_s2 at hs
  split at hs
  · rename_i hc
    simp only [Bool.and_eq_true, decide_eq_true_eq] at hc
    exact hc.1
  · cases hs
end GML
