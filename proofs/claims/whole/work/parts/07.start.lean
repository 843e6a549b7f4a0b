/-! what holds at the law's entry, in the words of the picture -/
theorem gm_inst (ci : Nat) (q : vw_C) (h : vwCl[ci]? = some q) : Jvm.Cond.instantiable q.1 q.2.2 ∈ lw_tbl := by
  match ci with
  | 0 => cases h; exact gm_wd_in (p := 457) rfl
  | 1 => cases h; exact gm_wd_in (p := 221) rfl
  | 2 => cases h; exact gm_wd_in (p := 293) rfl
  | 3 => cases h; exact gm_wd_in (p := 380) rfl
  | 4 => cases h; exact gm_wd_in (p := 136) rfl
  | 5 => cases h; exact gm_wd_in (p := 287) rfl
  | 6 => cases h; exact gm_wd_in (p := 142) rfl
  | 7 => cases h; exact gm_wd_in (p := 406) rfl
  | 8 => cases h; exact gm_wd_in (p := 369) rfl
  | 9 => cases h; exact gm_wd_in (p := 250) rfl
  | 10 => cases h; exact gm_wd_in (p := 128) rfl
  | 11 => cases h; exact gm_wd_in (p := 1275) rfl
  | n + 12 => cases h
def gm_nw : Jvm.Cond := Jvm.Cond.and given_1 narrow_1
def gm_sT (j : Nat) : Term := .static "WorseSenate" (gm_sn (1001 + j)) "[I"
def gm_xT (j : Nat) : Term := .string "WorseSenate$Scanner" (if j = 0 then 9 else 62)
set_option maxRecDepth 100000 in
theorem gm_nw_1 : ∀ j, j < 5 → Jvm.Cond.arrayOf (gm_sT j) .int ∈ flatC gm_nw ∧ Jvm.Cond.eq (.length (gm_sT j)) (.int (Int32.ofNat (gm_SA.getD j []).length)) ∈ flatC gm_nw := by decide +kernel
set_option maxRecDepth 100000 in
theorem gm_nw_2 : ∀ j, j < 5 → ∀ i, i < (gm_SA.getD j []).length → Jvm.Cond.eq (.elem (gm_sT j) (.int (Int32.ofNat i))) (.int ((gm_SA.getD j []).getD i 0)) ∈ flatC gm_nw := by decide +kernel
set_option maxRecDepth 100000 in
theorem gm_nw_3 : ∀ j, j < 2 → Jvm.Cond.exactly (gm_xT j) "java/lang/String" ∈ flatC gm_nw ∧ Jvm.Cond.eq (.field (gm_xT j) "java/lang/String" "coder" "B") (.int 0) ∈ flatC gm_nw ∧ Jvm.Cond.arrayOf (.field (gm_xT j) "java/lang/String" "value" "[B") .byte ∈ flatC gm_nw ∧ Jvm.Cond.eq (.length (.field (gm_xT j) "java/lang/String" "value" "[B")) (.int (Int32.ofNat (([160, 9] : List Nat).getD j 0))) ∈ flatC gm_nw := by decide +kernel
set_option maxRecDepth 100000 in
theorem gm_nw_4_0 : ∀ i, i < 10 → Jvm.Cond.eq (.elem (.field (gm_xT 0) "java/lang/String" "value" "[B") (.int (Int32.ofNat (0 + i)))) (.int ((gm_tx.getD 0 []).getD (0 + i) 0)) ∈ flatC gm_nw := by decide +kernel
set_option maxRecDepth 100000 in
theorem gm_nw_4_1 : ∀ i, i < 10 → Jvm.Cond.eq (.elem (.field (gm_xT 0) "java/lang/String" "value" "[B") (.int (Int32.ofNat (10 + i)))) (.int ((gm_tx.getD 0 []).getD (10 + i) 0)) ∈ flatC gm_nw := by decide +kernel
set_option maxRecDepth 100000 in
theorem gm_nw_4_2 : ∀ i, i < 10 → Jvm.Cond.eq (.elem (.field (gm_xT 0) "java/lang/String" "value" "[B") (.int (Int32.ofNat (20 + i)))) (.int ((gm_tx.getD 0 []).getD (20 + i) 0)) ∈ flatC gm_nw := by decide +kernel
set_option maxRecDepth 100000 in
theorem gm_nw_4_3 : ∀ i, i < 10 → Jvm.Cond.eq (.elem (.field (gm_xT 0) "java/lang/String" "value" "[B") (.int (Int32.ofNat (30 + i)))) (.int ((gm_tx.getD 0 []).getD (30 + i) 0)) ∈ flatC gm_nw := by decide +kernel
set_option maxRecDepth 100000 in
theorem gm_nw_4_4 : ∀ i, i < 10 → Jvm.Cond.eq (.elem (.field (gm_xT 0) "java/lang/String" "value" "[B") (.int (Int32.ofNat (40 + i)))) (.int ((gm_tx.getD 0 []).getD (40 + i) 0)) ∈ flatC gm_nw := by decide +kernel
set_option maxRecDepth 100000 in
theorem gm_nw_4_5 : ∀ i, i < 10 → Jvm.Cond.eq (.elem (.field (gm_xT 0) "java/lang/String" "value" "[B") (.int (Int32.ofNat (50 + i)))) (.int ((gm_tx.getD 0 []).getD (50 + i) 0)) ∈ flatC gm_nw := by decide +kernel
set_option maxRecDepth 100000 in
theorem gm_nw_4_6 : ∀ i, i < 10 → Jvm.Cond.eq (.elem (.field (gm_xT 0) "java/lang/String" "value" "[B") (.int (Int32.ofNat (60 + i)))) (.int ((gm_tx.getD 0 []).getD (60 + i) 0)) ∈ flatC gm_nw := by decide +kernel
set_option maxRecDepth 100000 in
theorem gm_nw_4_7 : ∀ i, i < 10 → Jvm.Cond.eq (.elem (.field (gm_xT 0) "java/lang/String" "value" "[B") (.int (Int32.ofNat (70 + i)))) (.int ((gm_tx.getD 0 []).getD (70 + i) 0)) ∈ flatC gm_nw := by decide +kernel
set_option maxRecDepth 100000 in
theorem gm_nw_4_8 : ∀ i, i < 10 → Jvm.Cond.eq (.elem (.field (gm_xT 0) "java/lang/String" "value" "[B") (.int (Int32.ofNat (80 + i)))) (.int ((gm_tx.getD 0 []).getD (80 + i) 0)) ∈ flatC gm_nw := by decide +kernel
set_option maxRecDepth 100000 in
theorem gm_nw_4_9 : ∀ i, i < 10 → Jvm.Cond.eq (.elem (.field (gm_xT 0) "java/lang/String" "value" "[B") (.int (Int32.ofNat (90 + i)))) (.int ((gm_tx.getD 0 []).getD (90 + i) 0)) ∈ flatC gm_nw := by decide +kernel
set_option maxRecDepth 100000 in
theorem gm_nw_4_10 : ∀ i, i < 10 → Jvm.Cond.eq (.elem (.field (gm_xT 0) "java/lang/String" "value" "[B") (.int (Int32.ofNat (100 + i)))) (.int ((gm_tx.getD 0 []).getD (100 + i) 0)) ∈ flatC gm_nw := by decide +kernel
set_option maxRecDepth 100000 in
theorem gm_nw_4_11 : ∀ i, i < 10 → Jvm.Cond.eq (.elem (.field (gm_xT 0) "java/lang/String" "value" "[B") (.int (Int32.ofNat (110 + i)))) (.int ((gm_tx.getD 0 []).getD (110 + i) 0)) ∈ flatC gm_nw := by decide +kernel
set_option maxRecDepth 100000 in
theorem gm_nw_4_12 : ∀ i, i < 10 → Jvm.Cond.eq (.elem (.field (gm_xT 0) "java/lang/String" "value" "[B") (.int (Int32.ofNat (120 + i)))) (.int ((gm_tx.getD 0 []).getD (120 + i) 0)) ∈ flatC gm_nw := by decide +kernel
set_option maxRecDepth 100000 in
theorem gm_nw_4_13 : ∀ i, i < 10 → Jvm.Cond.eq (.elem (.field (gm_xT 0) "java/lang/String" "value" "[B") (.int (Int32.ofNat (130 + i)))) (.int ((gm_tx.getD 0 []).getD (130 + i) 0)) ∈ flatC gm_nw := by decide +kernel
set_option maxRecDepth 100000 in
theorem gm_nw_4_14 : ∀ i, i < 10 → Jvm.Cond.eq (.elem (.field (gm_xT 0) "java/lang/String" "value" "[B") (.int (Int32.ofNat (140 + i)))) (.int ((gm_tx.getD 0 []).getD (140 + i) 0)) ∈ flatC gm_nw := by decide +kernel
set_option maxRecDepth 100000 in
theorem gm_nw_4_15 : ∀ i, i < 10 → Jvm.Cond.eq (.elem (.field (gm_xT 0) "java/lang/String" "value" "[B") (.int (Int32.ofNat (150 + i)))) (.int ((gm_tx.getD 0 []).getD (150 + i) 0)) ∈ flatC gm_nw := by decide +kernel
set_option maxRecDepth 100000 in
theorem gm_nw_4b : ∀ i, i < 9 → Jvm.Cond.eq (.elem (.field (gm_xT 1) "java/lang/String" "value" "[B") (.int (Int32.ofNat (i)))) (.int ((gm_tx.getD 1 []).getD (i) 0)) ∈ flatC gm_nw := by decide +kernel
theorem gm_nw_4a (i : Nat) (hi : i < 160) : Jvm.Cond.eq (.elem (.field (gm_xT 0) "java/lang/String" "value" "[B") (.int (Int32.ofNat (i)))) (.int ((gm_tx.getD 0 []).getD (i) 0)) ∈ flatC gm_nw := by
  obtain ⟨c, r, hc, hr, rfl⟩ : ∃ c r, c < 16 ∧ r < 10 ∧ i = 10 * c + r := ⟨i / 10, i % 10, by omega, by omega, by omega⟩
  match c, hc with
  | 0, _ => exact gm_nw_4_0 r hr
  | 1, _ => exact gm_nw_4_1 r hr
  | 2, _ => exact gm_nw_4_2 r hr
  | 3, _ => exact gm_nw_4_3 r hr
  | 4, _ => exact gm_nw_4_4 r hr
  | 5, _ => exact gm_nw_4_5 r hr
  | 6, _ => exact gm_nw_4_6 r hr
  | 7, _ => exact gm_nw_4_7 r hr
  | 8, _ => exact gm_nw_4_8 r hr
  | 9, _ => exact gm_nw_4_9 r hr
  | 10, _ => exact gm_nw_4_10 r hr
  | 11, _ => exact gm_nw_4_11 r hr
  | 12, _ => exact gm_nw_4_12 r hr
  | 13, _ => exact gm_nw_4_13 r hr
  | 14, _ => exact gm_nw_4_14 r hr
  | 15, _ => exact gm_nw_4_15 r hr
  | c + 16, hc => omega
theorem gm_nw_4 : ∀ j, j < 2 → ∀ i, i < ([160, 9] : List Nat).getD j 0 → Jvm.Cond.eq (.elem (.field (gm_xT j) "java/lang/String" "value" "[B") (.int (Int32.ofNat i))) (.int ((gm_tx.getD j []).getD i 0)) ∈ flatC gm_nw := by
  intro j hj i hi
  match j, hj with
  | 0, _ => exact gm_nw_4a i hi
  | 1, _ => exact gm_nw_4b i hi
  | j + 2, hj => omega
set_option maxRecDepth 100000 in
theorem gm_nw_5 : Jvm.Cond.not (Jvm.Cond.eq (gm_xT 0) (gm_xT 1)) ∈ flatC gm_nw ∧ Jvm.Cond.eq (.static "java/lang/String" "COMPACT_STRINGS" "Z") (.int 1) ∈ flatC gm_nw ∧ Jvm.Cond.isRef (.static "jdk/internal/util/Preconditions" "SIOOBE_FORMATTER" "Ljava/util/function/BiFunction;") ∈ flatC gm_nw := by decide +kernel
theorem gm_lays : ∀ j, j < 5 → Jvm.Cond.laysStatic "WorseSenate" (gm_sn (1001 + j)) "[I" ∈ lw_tbl := by
  intro j hj
  match j, hj with
  | 0, _ => exact gm_wd_in (p := 694) rfl
  | 1, _ => exact gm_wd_in (p := 696) rfl
  | 2, _ => exact gm_wd_in (p := 698) rfl
  | 3, _ => exact gm_wd_in (p := 759) rfl
  | 4, _ => exact gm_wd_in (p := 761) rfl
  | j + 5, hj => omega
theorem gm_arrK {s : State} {args : Array Value} {ty : FieldType} (hobj : ∀ C, ty ≠ .object C) (h : (Jvm.Cond.arrayClass ty).before args s = true) : ∃ cA : ClassId, ArrOfT s cA ty ∧ va_RA s cA ty := by
  obtain ⟨c, k, comp, h1, h2, h3⟩ := Cond.arrayClass_spec h
  refine ⟨c, fun n z => ⟨fun k9 h9 => (by cases h9), k, h2, comp, h3⟩, ?_⟩
  cases ty <;> first | exact h1 | exact absurd rfl (hobj _)
def gm_aof (b : Nat) (sa adK adV : Nat → Nat) (q : Nat) : Nat := if q = 1000 then b else if q < 1010 then sa (q - 1001) else if q < 1020 then adK (q - 1010) else adV (q - 1020)
theorem gm_aof_s (b : Nat) (sa adK adV : Nat → Nat) {j : Nat} (hj : j < 5) : gm_aof b sa adK adV (1001 + j) = sa j := by
  have h1 : ¬ (1001 + j = 1000) := by omega
  have h2 : 1001 + j < 1010 := by omega
  have h3 : 1001 + j - 1001 = j := by omega
  unfold gm_aof
  simp only [h1, h2, h3, if_false, if_true]
theorem gm_start {s : State} {b L : Nat} {xs : Nat → Int32} (hts : ∀ w ∈ lw_tbl, w.before #[Value.ref b] s = true) (hX : va_X b L xs s s.heap) (hb : b < s.heap.size) (hL : L ≤ 3072) (hg : gm_nw.before #[Value.ref b] s = true) : ∃ g : gm_G, gm_Cx g s ∧ gm_bs g = s.heap.size ∧ gm_H0 g = s.heap ∧ gm_ao g 1000 = b ∧ gm_sl g = L ∧ gm_sx g = xs := by
  have hs := flat_of_before _ hg
  have hT : ∀ w ∈ gm_T, w.before #[Value.ref b] s = true := fun w hw => hts w (List.mem_filter.mp hw).1
  have hcl : ∀ c : Nat, ∃ d : ClassId × (Nat → Nat), ∀ q : vw_C, vwCl[c]? = some q → u_Kn s q.1 q.2.1 q.2.2 d.1 d.2 := by
    intro c
    cases hv : vwCl[c]? with
    | none => exact ⟨(0, fun _ => 0), fun q hq => by cases hq⟩
    | some q =>
      obtain ⟨cC, iS, h1⟩ := u_known (ws := gm_T) hT (gm_cls c q hv).1 (hts _ (gm_inst c q hv))
      exact ⟨(cC, iS), fun q9 hq => by cases hq; exact h1⟩
  obtain ⟨cI, i1, i2⟩ := gm_arrK (ty := .int) (fun C h => by cases h) (hts _ (gm_wd_in (p := 248) rfl))
  obtain ⟨cB, b1, b2⟩ := gm_arrK (ty := .byte) (fun C h => by cases h) (hts _ (gm_wd_in (p := 218) rfl))
  obtain ⟨cZ, z1, z2⟩ := gm_arrK (ty := .boolean) (fun C h => by cases h) (hts _ (gm_wd_in (p := 1500) rfl))
  obtain ⟨cJ, j1, j2⟩ := gm_arrK (ty := .long) (fun C h => by cases h) (hts _ (gm_wd_in (p := 219) rfl))
  have hao : (Jvm.Cond.arrayOver (.array .int)).before #[Value.ref b] s = true := hts _ (gm_wd_in (p := 386) rfl)
  obtain ⟨comp, cO, kO, o1, o2, o3, o4, o5⟩ := arrayOver_specB hao
  have hA : ∀ a : Nat, a < s.heap.size → ¬ s.heap.size ≤ a := fun a h => Nat.not_le.mpr h
  have hsa : ∀ j : Nat, ∃ t : Nat, j < 5 → va_Z "WorseSenate" (gm_sn (1001 + j)) "[I" (.ref t) (fun q => s.heap.size ≤ q) s s.heap ∧ va_T .int t ((gm_SA.getD j []).length) (fun i => .int ((gm_SA.getD j []).getD i 0)) (fun q => s.heap.size ≤ q) s s.heap := by
    intro j
    by_cases hj : j < 5
    · have hlen : (gm_SA.getD j []).length < 2 ^ 31 := by
        match j, hj with
        | 0, _ => decide
        | 1, _ => decide
        | 2, _ => decide
        | 3, _ => decide
        | 4, _ => decide
        | j + 5, hj => omega
      obtain ⟨t, h1, h2⟩ := va_Tof (A := fun q => s.heap.size ≤ q) (ty := .int) (tm := gm_sT j) (N := (gm_SA.getD j []).length) (f := fun i => .int ((gm_SA.getD j []).getD i 0)) hlen (hs _ (gm_nw_1 j hj).1) (va_eqt (hs _ (gm_nw_1 j hj).2)) (fun i hi => va_eqt (hs _ (gm_nw_2 j hj i hi))) hA
      exact ⟨t, fun _ => ⟨va_Zref (hts _ (gm_lays j hj)) (hts (Jvm.Cond.initialized "WorseSenate") (gm_wd_in (p := 106) rfl)) h1 hA, h2⟩⟩
    · exact ⟨0, fun h => absurd h hj⟩
  obtain ⟨adK, adV, hS, hK⟩ := vk_Sof (A := fun q => s.heap.size ≤ q) (N := 2) (tm := gm_xT) (len := [160, 9]) (byt := gm_tx) (fun i hi => by
      match i, hi with
      | 0, _ => decide
      | 1, _ => decide
      | i + 2, hi => omega) (fun i hi => hs _ (gm_nw_3 i hi).1) (fun i hi => hs _ (gm_nw_3 i hi).2.1) (fun i hi => hs _ (gm_nw_3 i hi).2.2.1) (fun i hi => hs _ (gm_nw_3 i hi).2.2.2) (fun i hi j hj => hs _ (gm_nw_4 i hi j hj)) (fun i j hi hj hij => by
      match i, j, hi, hj with
      | 0, 0, _, _ => exact absurd rfl hij
      | 0, 1, _, _ => exact Or.inl (hs _ gm_nw_5.1)
      | 1, 0, _, _ => exact Or.inr (hs _ gm_nw_5.1)
      | 1, 1, _, _ => exact absurd rfl hij
      | i + 2, _, hi, _ => omega
      | _, j + 2, _, hj => omega) hA
  have hcs := va_Zof (A := fun q => s.heap.size ≤ q) (hts _ (gm_wd_in (p := 157) rfl)) (hts (Jvm.Cond.initialized "java/lang/String") (gm_wd_in (p := 109) rfl)) (va_eqt (hs _ gm_nw_5.2.1)) hA
  have hsf := va_Zqof (A := fun q => s.heap.size ≤ q) (hts _ (gm_wd_in (p := 173) rfl)) (hts (Jvm.Cond.initialized "jdk/internal/util/Preconditions") (gm_wd_in (p := 111) rfl)) (hs _ gm_nw_5.2.2) hA
  obtain ⟨fm, hfm⟩ : ∃ fm : Option Nat, va_Z "jdk/internal/util/Preconditions" "SIOOBE_FORMATTER" "Ljava/util/function/BiFunction;" (va_rf fm) (fun q => s.heap.size ≤ q) s s.heap := by
    rcases hsf with h | ⟨t, h⟩
    · exact ⟨none, h⟩
    · exact ⟨some t, h⟩
  refine ⟨((fun c => (Classical.choose (hcl c)).1, fun c => (Classical.choose (hcl c)).2), (cI, cB, cZ, cJ, cO), s.heap.size, s.heap, gm_aof b (fun j => Classical.choose (hsa j)) adK adV, L, xs, fm), ?_, rfl, rfl, rfl, rfl, rfl⟩
  refine ⟨⟨fun c q hq => Classical.choose_spec (hcl c) q hq, fun k q hk => ?_⟩, hX, hb, hL, rfl, fun j hj => ?_, fun w hw hn => ?_, vk_R.of (hts _ (gm_wd_in (p := 147) rfl)) (hK 0 (by decide)), vk_R.of (hts _ (gm_wd_in (p := 621) rfl)) (hK 1 (by decide)), ?_, hcs, hfm, hao⟩
  · match k with
    | 0 => cases hk; exact ⟨i1, i2⟩
    | 1 => cases hk; exact ⟨b1, b2⟩
    | 2 => cases hk; exact ⟨z1, z2⟩
    | 3 => cases hk; exact ⟨j1, j2⟩
    | 4 => cases hk; exact ⟨fun n z => ⟨fun k9 h9 => (by cases h9), kO, o3, comp, o4⟩, o5⟩
    | k + 5 => cases hk
  · have h9 := Classical.choose_spec (hsa j) hj
    have e9 := gm_aof_s b (fun j => Classical.choose (hsa j)) adK adV hj
    show va_Z _ _ _ (.ref (gm_aof b (fun j => Classical.choose (hsa j)) adK adV (1001 + j))) _ _ _ ∧ va_T _ (gm_aof b (fun j => Classical.choose (hsa j)) adK adV (1001 + j)) _ _ _ _ _
    rw [e9]
    exact h9
  · refine va_Nw.of ?_ (hts w hw)
    cases w <;> first | rfl | (simp [gm_nst] at hn)
  · refine ⟨fun i hi => ?_, fun i j hi hj hij => ?_⟩
    · match i, hi with
      | 0, _ => exact hS.1 0 (by decide)
      | 1, _ => exact hS.1 1 (by decide)
      | i + 2, hi => omega
    · match i, j, hi, hj with
      | 0, 0, _, _ => rfl
      | 0, 1, _, _ => exact hS.2 0 1 (by decide) (by decide) hij
      | 1, 0, _, _ => exact hS.2 1 0 (by decide) (by decide) hij
      | 1, 1, _, _ => rfl
      | i + 2, _, hi, _ => omega
      | _, j + 2, _, hj => omega
/-- the heap's picture at the entry: nothing is made yet -/
def gm_im0 (L : Nat) (xs : Nat → Int32) : gm_I := fun a j => if a = 2000 then Int32.ofNat L else if a = 1000 then xs j else if a < 1010 then ((gm_SA.getD (a - 1001) []).getD j 0) else ((gm_tx.getD (a - 1020) []).getD j 0)
theorem gm_P0 {g : gm_G} {s : State} (hb : gm_bs g = s.heap.size) (hH : gm_H0 g = s.heap) (rf : gm_R) (lm : gm_L) : gm_P g 0 rf (gm_im0 (gm_sl g) (gm_sx g)) lm s.heap := by
  refine ⟨fun o h => absurd h (Nat.not_lt_zero _), by rw [hb]; rfl, Nat.zero_le _, fun q _ => by rw [hH], rfl, fun j _ => rfl, fun j x hx i _ => ?_, fun j x hx i _ => ?_⟩
  · have hj : j < 5 := (List.getElem?_eq_some_iff.mp hx).1
    show (if 1001 + j = 2000 then _ else if 1001 + j = 1000 then _ else if 1001 + j < 1010 then _ else _) = _
    rw [if_neg (by omega), if_neg (by omega), if_pos (by omega), show 1001 + j - 1001 = j by omega, gm_sa_get hx]
  · have hj : j < 2 := (List.getElem?_eq_some_iff.mp hx).1
    have h1 : ¬ (1020 + j = 2000) := by omega
    have h2 : ¬ (1020 + j = 1000) := by omega
    have h3 : ¬ (1020 + j < 1010) := by omega
    have h4 : 1020 + j - 1020 = j := by omega
    have h5 : gm_tx.getD j [] = x := by rw [List.getD_eq_getElem?_getD, hx]; rfl
    unfold gm_im0
    simp only [h1, h2, h3, h4, h5, if_false]
