/-! fields of the made objects; new cells -/
theorem gm_vpV {N j : Nat} {f : Nat → Value} (h : j < N) : vp_V ((List.range N).map f) j = f j := by
  unfold vp_V
  rw [List.getD_eq_getElem?_getD, List.getElem?_map, List.getElem?_range h]
  rfl
section GMF
variable {p : Program} {l : Launch} {e : Env} {R : Room} {s : State} {m : MethodId} {args : Array Value} {below : List Frame} {meth : Method} {c : Code} {H : Heap} {locs : List Loc} {cells slots : Nat} {Q : State → Prop}
variable {cc : ByteArray} {pc : Nat} {ls : Array Slot} {rest : List Value} {g : gm_G} {n : Nat} {rf : gm_R} {im : gm_I} {lm : gm_L}
theorem gm_locs {a k : Nat} (hlo : ∀ q ∈ locs, gm_A g q.base) : ∀ q ∈ locs ++ [⟨gm_bs g + a, k⟩], gm_A g q.base := by
  intro q hq
  rcases List.mem_append.mp hq with h | h
  · exact hlo q h
  · rw [List.mem_singleton] at h
    subst h
    exact Nat.le_add_right _ _
theorem gw_get (hx : p.tables.exec = Jvm.exec) (hb : c.code = cc) (hts : ∀ w ∈ gm_T, w.before args s = true) {own C : String} {T : u_T} {N ci k index o : Nat} (hown : s.vm.findClass own = some m.cls) (hK : va_K (gm_D g) vwCl (gm_ty g) s) (hP : gm_P g n rf im lm H) (ho : o < n) (hl : gm_LAY[o]? = some (0, ci)) (hq : vwCl[ci]? = some (C, T, N)) (hk : k < N) (hT : (T k).1 = C) (hlen : (gm_FY.getD ci []).length = N)
    (hlink : (Jvm.Cond.fieldLink own index C (T k).2.1 (T k).2.2.1).before args s = true ∨ (Jvm.Cond.fieldLinkNest own index C (T k).2.1 (T k).2.2.1 "WorseSenate").before args s = true) (hdg : decode cc pc = .ok (.getfield index, 3))
    (kk : W p l e R s m args below meth c H locs cells slots Q (F0 m (pc + 3) ls (gm_fv g rf im lm o ci k :: rest))) : W p l e R s m args below meth c H locs cells slots Q (F0 m pc ls (.ref (gm_ad g o) :: rest)) := by
  have hat := hP.at ho
  rw [gm_ce_0 hl, hlen] at hat
  rw [hP.small ho]
  have hPw : va_P (gm_D g) vwCl [(gm_bs g + o, .inr (ci, (List.range N).map (gm_fv g rf im lm o ci)))] H := by
    intro j q hj
    match j with
    | 0 => cases hj; exact hat
    | j + 1 => simp at hj
  have hv : ((List.range N).map (gm_fv g rf im lm o ci))[k]? = some (gm_fv g rf im lm o ci k) := by rw [List.getElem?_map, List.getElem?_range hk]; rfl
  rcases hlink with hlink | hlink
  · exact va_get (D := gm_D g) (ci := ci) (C := C) (T := T) (N := N) hx hb hts (gm_cls ci _ hq).1 hown hK hPw 0 rfl hq k hk hlink (fun _ h9 => by rw [← hT]; exact h9) hv hdg kk
  · exact va_getN (D := gm_D g) (ci := ci) (C := C) (T := T) (N := N) hx hb hts (gm_cls ci _ hq).1 hown hK hPw 0 rfl hq k hk hlink (fun _ h9 => by rw [← hT]; exact h9) hv hdg kk
theorem gw_put (hx : p.tables.exec = Jvm.exec) (hb : c.code = cc) (hts : ∀ w ∈ gm_T, w.before args s = true) {own C : String} {T : u_T} {N ci k index o : Nat} (hown : s.vm.findClass own = some m.cls) (hK : va_K (gm_D g) vwCl (gm_ty g) s) (hP : gm_P g n rf im lm H) (ho : o < n) (hl : gm_LAY[o]? = some (0, ci)) (hq : vwCl[ci]? = some (C, T, N)) (hk : k < N) (hT : (T k).1 = C) (hlen : (gm_FY.getD ci []).length = N)
    (hlink : (Jvm.Cond.fieldLink own index C (T k).2.1 (T k).2.2.1).before args s = true ∨ ((T k).2.2.2 = false ∧ (Jvm.Cond.fieldLinkNest own index C (T k).2.1 (T k).2.2.1 "WorseSenate").before args s = true)) (hfin : (T k).2.2.2 = true → meth.name = "<init>" ∧ C = own) {ty : FieldType} {v : Value} (hd : parseFieldDescriptor (T k).2.2.1 = some ty) (hn : narrow ty v = v) (hfit : fits ty v = true)
    {rf' : gm_R} {im' : gm_I} {lm' : gm_L} (hnew : gm_fv g rf' im' lm' o ci k = v) (hold : ∀ j, j ≠ k → gm_fv g rf' im' lm' o ci j = gm_fv g rf im lm o ci j) (hsame : ∀ a, a ≠ o → rf' a = rf a ∧ im' a = im a ∧ lm' a = lm a)
    (hlo : ∀ q ∈ locs, gm_A g q.base) (hdg : decode cc pc = .ok (.putfield index, 3))
    (kk : ∀ (H1 : Heap) (locs1 : List Loc), gm_P g n rf' im' lm' H1 → (∀ q ∈ locs1, gm_A g q.base) → W p l e R s m args below meth c H1 locs1 cells slots Q (F0 m (pc + 3) ls rest)) : W p l e R s m args below meth c H locs cells slots Q (F0 m pc ls (v :: .ref (gm_ad g o) :: rest)) := by
  have hat := hP.at ho
  rw [gm_ce_0 hl, hlen] at hat
  rw [hP.small ho]
  obtain ⟨r, h1, cell, q1, q2, q3, q4⟩ := hat
  have hr : r = (C, T, N) := Option.some.inj (h1.symm.trans hq)
  subst hr
  obtain ⟨hin, ty0, hty, hnm⟩ := gm_cls ci _ hq
  have hap := va_apart (own := own) hts hin ty0 hty hnm hK hq
  obtain ⟨hS, hfc, kC, hkC, hkind⟩ := hK.1 ci _ hq
  obtain ⟨cf, kf, fi, f, hi, hsl⟩ := hS k hk
  have hlay := hts _ (hin _ (u_in_lay hk))
  unfold u_lay at hlay
  have hst := (u_facts hfc hkC (u_lays hts hin hk) hi).1
  have hi2 : s.fieldFound? C (T k).2.1 (T k).2.2.1 = some (cf, kf, fi, f) := by rw [← hT]; exact hi
  have fin : ∀ H' : Heap, H'[gm_bs g + o]? = some (cell.setSlot (gm_D g |>.2 ci k) v) → H'.size = H.size → (∀ q, q ≠ gm_bs g + o → H'[q]? = H[q]?) → gm_P g n rf' im' lm' H' := by
    intro H' e1 e2 e3
    refine hP.wr ho e2 e3 ?_ hsame
    rw [gm_ce_0 hl, hlen]
    refine ⟨_, hq, t_OB.to (V := updV (vp_V ((List.range N).map (gm_fv g rf im lm o ci))) k v) ⟨_, e1, q2, q3, t_set q4 hap hk v⟩ (fun j hj => ?_)⟩
    show updV (vp_V ((List.range N).map (gm_fv g rf im lm o ci))) k v j = vp_V ((List.range N).map (gm_fv g rf' im' lm' o ci)) j
    rw [gm_vpV hj]
    by_cases hjk : j = k
    · subst hjk
      simp only [updV, if_pos, hnew]
    · simp only [updV, if_neg hjk, gm_vpV hj, hold j hjk]
  cases hf : (T k).2.2.2 with
  | false =>
    rw [if_neg (by rw [hf]; decide)] at hlay
    have h6 := u_store hfc hkC hkind hlay hi hd hn hfit
    rcases hlink with hlink | ⟨-, hlink⟩
    · refine W.putK hx hb (f := f) ⟨hown, hlink, ⟨_, _, _, hi2⟩, hst⟩ (by rw [q2]; exact h6) q1 q3 (by rw [hsl]; exact k2_hasslot (q4 k hk)) rfl rfl hdg fun H' e1 e2 e3 => ?_
      rw [hsl] at e1
      exact kk H' _ (fin H' e1 e2 e3) (gm_locs hlo)
    · refine va_WputK hx hb (f := f) hown hlink hi2 hst (by rw [q2]; exact h6) q1 q3 (by rw [hsl]; exact k2_hasslot (q4 k hk)) rfl rfl hdg fun H' e1 e2 e3 => ?_
      rw [hsl] at e1
      exact kk H' _ (fin H' e1 e2 e3) (gm_locs hlo)
  | true =>
    rw [if_pos hf] at hlay
    obtain ⟨hin2, hdecl⟩ := hfin hf
    have hcf : m.cls = cf := by
      obtain ⟨_, _, c', _, _, _, -, -, hf', -, -, -, hown2, -⟩ := Cond.laysFinal_spec hlay
      have e1 : c' = cf := by have := hi.symm.trans hf'; simp at this; exact this.1.symm
      rw [hT, hdecl] at hown2
      rw [← e1]; exact Option.some.inj (hown.symm.trans hown2)
    have h6 := u_fits hfc hkC hkind (Or.inr hlay) hi hd hn hfit
    rcases hlink with hlink | ⟨h0, -⟩
    · refine W.putFinK hx hb hown hlink hi2 hst hcf hin2 (by rw [q2]; exact h6) q1 q3 (by rw [hsl]; exact k2_hasslot (q4 k hk)) rfl rfl hdg fun H' e1 e2 e3 => ?_
      rw [hsl] at e1
      exact kk H' _ (fin H' e1 e2 e3) (gm_locs hlo)
    · rw [hf] at h0; cases h0
/-- the picture with new cells behind -/
theorem gm_P.more {H1 : Heap} {w : Nat} {rf' : gm_R} {im' : gm_I} {lm' : gm_L} (hP : gm_P g n rf im lm H) (hn : n + w ≤ gm_LAY.length) (hz : H1.size = H.size + w) (oq : ∀ q : Nat, q < H.size → H1[q]? = H[q]?)
    (hnew : ∀ j, j < w → va_at (gm_D g) vwCl (gm_bs g + (n + j), gm_ce g rf' im' lm' (n + j)) H1) (hsame : ∀ a, (a < n ∨ n + w ≤ a) → rf' a = rf a ∧ im' a = im a ∧ lm' a = lm a) : gm_P g (n + w) rf' im' lm' H1 := by
  obtain ⟨h1, h2, h3, h4, h5, h6, h7, h8⟩ := hP
  have hn2 := hn
  rw [gm_LAY_len] at hn2
  refine ⟨fun a ha => ?_, by omega, hn, fun q hq => (oq q (by omega)).trans (h4 q hq), ?_, fun j hj => ?_, fun j l hj i hi => ?_, fun j l hj i hi => ?_⟩
  · by_cases hao : a < n
    · obtain ⟨e1, e2, e3⟩ := hsame a (Or.inl hao)
      rw [gm_ce_congr e1 e2 e3]
      exact (h1 a hao).kept (oq _ (by show gm_bs g + a < H.size; omega))
    · have := hnew (a - n) (by omega)
      rw [show n + (a - n) = a by omega] at this
      exact this
  · rw [(hsame 2000 (by omega)).2.1]; exact h5
  · rw [(hsame 1000 (by omega)).2.1]; exact h6 j hj
  · rw [(hsame (1001 + j) (by omega)).2.1]; exact h7 j l hj i hi
  · rw [(hsame (1020 + j) (by omega)).2.1]; exact h8 j l hj i hi
theorem gm_zr_out {α : Type} {f : Nat → Nat → α} {w a : Nat} {z : α} (h : a < n ∨ n + w ≤ a) : gm_zr f n w z a = f a := by
  funext b
  unfold gm_zr
  rw [if_neg (by omega)]
theorem gm_zr_in {α : Type} {f : Nat → Nat → α} {w a : Nat} {z : α} (h : n ≤ a ∧ a < n + w) : gm_zr f n w z a = fun _ => z := by
  funext b
  unfold gm_zr
  rw [if_pos h]
theorem gw_newa (hx : p.tables.exec = Jvm.exec) (hb : c.code = cc) (hts : ∀ w ∈ gm_T, w.before args s = true) (hK : va_K (gm_D g) vwCl (gm_ty g) s) (hP : gm_P g n rf im lm H) {at' : ArrayType} {kd : Nat} {z : Int32} (hw : (Jvm.Cond.arrayClass (newarray.typeOf at')) ∈ gm_T) (hl : gm_LAY[n]? = some (kd, z.toNatClampNeg)) (hz : ¬ z < 0) (hzb : z.toNatClampNeg ≤ 10000) (hcells : cells + 1 ≤ R.cells) (hslots : slots + z.toNatClampNeg ≤ R.slots)
    (hkd : (kd = 1 ∧ at' = .int) ∨ (kd = 2 ∧ at' = .byte) ∨ (kd = 3 ∧ at' = .boolean) ∨ (kd = 4 ∧ at' = .long)) (hdg : decode cc pc = .ok (.newarray at', 2))
    (kk : ∀ H1 : Heap, gm_P g (n + 1) (gm_zr rf n 1 none) (gm_zr im n 1 0) (gm_zr lm n 1 0) H1 → W p l e R s m args below meth c H1 locs (cells + 1) (slots + z.toNatClampNeg) Q (F0 m (pc + 2) ls (.ref (gm_bs g + n) :: rest))) : W p l e R s m args below meth c H locs cells slots Q (F0 m pc ls (.int z :: rest)) := by
  have hn1 : n + 1 ≤ gm_LAY.length := (List.getElem?_eq_some_iff.mp hl).1
  refine va_newaK hx hb (hts _ hw) rfl hdg rfl hz rfl ?_ hcells hslots hP.2.1 (fun H1 cA e1 z1 o1 hAr hNm => ?_)
  · rcases hkd with ⟨-, rfl⟩ | ⟨-, rfl⟩ | ⟨-, rfl⟩ | ⟨-, rfl⟩ <;> simp [newarray.typeOf, componentBytes] <;> omega
  · refine kk H1 (hP.more hn1 (by rw [z1, hP.2.1]) (fun q hq => o1 q (by rw [← hP.2.1]; exact hq)) (fun j hj => ?_) (fun a ha => ⟨gm_zr_out ha, gm_zr_out ha, gm_zr_out ha⟩))
    have hj0 : j = 0 := by omega
    subst hj0
    have hi0 : gm_zr im n 1 (0 : Int32) n = fun _ => 0 := gm_zr_in ⟨Nat.le_refl _, by omega⟩
    have hl0 : gm_zr lm n 1 (0 : Int64) n = fun _ => 0 := gm_zr_in ⟨Nat.le_refl _, by omega⟩
    show va_at (gm_D g) vwCl (gm_bs g + n, gm_ce g _ _ _ n) H1
    rcases hkd with ⟨rfl, rfl⟩ | ⟨rfl, rfl⟩ | ⟨rfl, rfl⟩ | ⟨rfl, rfl⟩
    · have hc : cA = g.2.1.1 := Option.some.inj (hNm.symm.trans (hK.2 0 _ rfl).2)
      rw [gm_ce_1 hl, hi0, ← hc]; exact e1
    · have hc : cA = g.2.1.2.1 := Option.some.inj (hNm.symm.trans (hK.2 1 _ rfl).2)
      rw [gm_ce_2 hl, hi0, ← hc]; exact e1
    · have hc : cA = g.2.1.2.2.1 := Option.some.inj (hNm.symm.trans (hK.2 2 _ rfl).2)
      rw [gm_ce_3 hl, hi0, ← hc]; exact e1
    · have hc : cA = g.2.1.2.2.2.1 := Option.some.inj (hNm.symm.trans (hK.2 3 _ rfl).2)
      rw [gm_ce_4 hl, hl0, ← hc]; exact e1
end GMF
