/-! the pure machine: what a method does to numbers, by ids of the cells made; every check that the true machine needs is made here -/
abbrev gm_I : Type := Nat → Nat → Int32
abbrev gm_L : Type := Nat → Nat → Int64
abbrev gm_R : Type := Nat → Nat → Option Nat
abbrev gm_Res : Type := Option Value × Nat × gm_R × gm_I × gm_L
abbrev gm_Nx : Type := Nat × List Value × List Value × Nat × gm_R × gm_I × gm_L
abbrev gm_Cl : Type := Nat × List Value × Nat × List Value
abbrev gm_O : Type := Option (gm_Nx ⊕ (gm_Res ⊕ gm_Cl))
def gm_up {α : Type} (f : Nat → Nat → α) (o k : Nat) (v : α) : Nat → Nat → α := fun a b => if a = o then (if b = k then v else f a b) else f a b
/-- from id n on, w cells are as new -/
def gm_zr {α : Type} (f : Nat → Nat → α) (n w : Nat) (z : α) : Nat → Nat → α := fun a b => if n ≤ a ∧ a < n + w then z else f a b
def gm_own (M : gm_M) : Nat := M.1
def gm_y (M : gm_M) : MethodName := M.2.1
def gm_b (M : gm_M) : ByteArray := M.2.2.1
def gm_ml (M : gm_M) : Nat := M.2.2.2.1
def gm_ret (M : gm_M) : Option FieldType := M.2.2.2.2.1
def gm_fr (M : gm_M) : Nat := M.2.2.2.2.2.1
def gm_lo (M : gm_M) : Nat := M.2.2.2.2.2.2.1
def gm_s0 (M : gm_M) : Nat := M.2.2.2.2.2.2.2.1
def gm_nc (M : gm_M) : Nat := M.2.2.2.2.2.2.2.2.1
def gm_ns (M : gm_M) : Nat := M.2.2.2.2.2.2.2.2.2.1
def gm_np (M : gm_M) : Nat := M.2.2.2.2.2.2.2.2.2.2
def gm_f (o i : Nat) : Option (Nat × Nat × Nat × Nat) := (gm_FT.find? (fun e => e.1 == o && e.2.1 == i)).map (fun e => e.2.2)
def gm_c (o i : Nat) : Option (Nat × Nat × Nat × Nat × Nat) := (gm_CT.find? (fun e => e.1 == o && e.2.1 == i)).map (fun e => e.2.2)
def gm_n (o i : Nat) : Option (Nat × Nat × Nat × Nat) := (gm_NT.find? (fun e => e.1 == o && e.2.1 == i)).map (fun e => e.2.2)
def gm_k (o i : Nat) : Option (Int32 × Nat) := (gm_KT.find? (fun e => e.1 == o && e.2.1 == i)).map (fun e => e.2.2)
def gm_kl (o i : Nat) : Option (Int64 × Nat) := (gm_LT.find? (fun e => e.1 == o && e.2.1 == i)).map (fun e => e.2.2)
def gm_st (o i : Nat) : Option (Nat × Nat) := (gm_ST.find? (fun e => e.1 == o && e.2.1 == i)).map (fun e => e.2.2)
/-- a field's type: 0 int, 1 long, 2 a reference, 3 boolean -/
def gm_fy (ci k : Nat) : Nat := (gm_FY.getD ci []).getD k 9
/-- what stands at an id: its kind and its places (from 1000 on: the script, the static rows) -/
def gm_at (im : gm_I) (n a : Nat) : Option (Nat × Nat) := if a < n then gm_LAY[a]? else if a = 1000 then some (1, (im 2000 0).toNatClampNeg) else if a = 1020 then some (2, 160) else if a = 1021 then some (2, 9) else if 1001 ≤ a then (gm_SA[a - 1001]?).map (fun l => (1, l.length)) else none
def gm_in (i : Int32) (n : Nat) : Bool := !(decide (i < 0) || decide (n ≤ i.toNatClampNeg))
/-- the place ahead of i holds no long -/
def gm_pv (vs : List Value) (i : Nat) : Bool := match i with
  | 0 => true
  | j + 1 => match vs[j]? with
    | some v => decide (v.category ≠ 2)
    | none => true
def gm_nx (pc : Nat) (vs st : List Value) (n : Nat) (rf : gm_R) (im : gm_I) (lm : gm_L) : gm_O := some (.inl (pc, vs, st, n, rf, im, lm))
def gm_s1 (vs : List Value) (i : Nat) (v : Value) : Option (List Value) := if decide (i < vs.length) && gm_pv vs i then some (vs.set i v) else none
def gm_s2 (vs : List Value) (i : Nat) (v : Value) : Option (List Value) := if decide (i + 1 < vs.length) && gm_pv vs i then some ((vs.set i v).set (i + 1) .null) else none
/-- a jump's target -/
def gm_j (pc : Nat) (off : Int) : Option Nat := if 0 ≤ (pc : Int) + off then some ((pc : Int) + off).toNat else none
def gm_jm (pc : Nat) (off : Int) (vs st : List Value) (n : Nat) (rf : gm_R) (im : gm_I) (lm : gm_L) : gm_O := match gm_j pc off with
  | some t => gm_nx t vs st n rf im lm
  | none => none
def gm_cd (c : ClassFile.Cond) (x y : Int32) : Bool := match c with
  | .eq => decide (x = y)
  | .ne => !decide (x = y)
  | .lt => decide (x < y)
  | .ge => decide (y ≤ x)
  | .gt => decide (y < x)
  | .le => decide (x ≤ y)
def gm_ii (st : List Value) (f : Int32 → Int32 → List Value → gm_O) : gm_O := match st with
  | .int y :: .int x :: r => f x y r
  | _ => none
def gm_ll (st : List Value) (f : Int64 → Int64 → List Value → gm_O) : gm_O := match st with
  | .long y :: .long x :: r => f x y r
  | _ => none
def gm_i (st : List Value) (f : Int32 → List Value → gm_O) : gm_O := match st with
  | .int x :: r => f x r
  | _ => none
def gm_l (st : List Value) (f : Int64 → List Value → gm_O) : gm_O := match st with
  | .long x :: r => f x r
  | _ => none
def gm_a (st : List Value) (f : Nat → List Value → gm_O) : gm_O := match st with
  | .ref x :: r => f x r
  | _ => none
/-- texts: 1010 the words, 1011 the signs -/
def gm_tx : List (List Int32) := [[115, 105, 100, 101, 115, 32, 32, 32, 109, 97, 110, 32, 32, 32, 32, 32, 109, 111, 116, 105, 111, 110, 32, 32, 106, 117, 114, 111, 114, 32, 32, 32, 115, 101, 101, 100, 32, 32, 32, 32, 97, 114, 103, 117, 101, 115, 32, 32, 109, 97, 114, 107, 115, 32, 32, 32, 102, 105, 110, 101, 115, 32, 32, 32, 105, 102, 32, 32, 32, 32, 32, 32, 116, 104, 101, 110, 32, 32, 32, 32, 101, 108, 115, 101, 32, 32, 32, 32, 115, 107, 105, 108, 108, 32, 32, 32, 109, 97, 110, 110, 101, 114, 32, 32, 115, 108, 105, 112, 32, 32, 32, 32, 112, 114, 97, 105, 115, 101, 32, 32, 100, 97, 121, 32, 32, 32, 32, 32, 103, 111, 111, 100, 32, 32, 32, 32, 108, 101, 97, 110, 32, 32, 32, 32, 119, 104, 105, 99, 104, 32, 32, 32, 115, 119, 111, 114, 110, 32, 32, 32], [59, 61, 43, 45, 42, 47, 60, 40, 41]]
/-- room for a call: frames, locals' words, cells; what is below the arguments -/
def gm_rm (M N : gm_M) (n : Nat) (rest : List Value) : Bool := decide (gm_fr N + 1 ≤ gm_fr M) && decide (8 + (gm_ml N + 11) + gm_lo N ≤ gm_lo M) && decide ((rest.map fun v => v.category).sum ≤ 8) && ((decide (gm_nc M = 0) && decide (gm_nc N = 0)) || (decide (gm_s0 M ≤ n) && decide (n + gm_nc N ≤ gm_s0 M + gm_nc M))) && (decide (gm_nc N = 0) || decide (n = gm_s0 N))
def gm_cl (M : gm_M) (k pc : Nat) (vs st : List Value) (n : Nat) (np : Nat) : gm_O :=
  match gm_MT[k]? with
  | some N => if decide (np ≤ st.length) && gm_rm M N n (st.drop np) then some (.inr (.inr (k, (st.take np).reverse, pc + 3, st.drop np))) else none
  | none => none
def gm_new (M : gm_M) (ci pc : Nat) (vs st : List Value) (n : Nat) (rf : gm_R) (im : gm_I) (lm : gm_L) : gm_O :=
  if gm_LAY[n]? = some (0, ci) ∧ n + 1 ≤ gm_s0 M + gm_nc M ∧ gm_s0 M ≤ n then gm_nx (pc + 3) vs (.ref n :: st) (n + 1) (gm_zr rf n 1 none) (gm_zr im n 1 0) (gm_zr lm n 1 0) else none
def gm_nwa (M : gm_M) (kd pc : Nat) (z : Int32) (vs st : List Value) (n : Nat) (rf : gm_R) (im : gm_I) (lm : gm_L) : gm_O :=
  if gm_LAY[n]? = some (kd, z.toNatClampNeg) ∧ ¬ z < 0 ∧ n + 1 ≤ gm_s0 M + gm_nc M ∧ gm_s0 M ≤ n then gm_nx (pc + 2) vs (.ref n :: st) (n + 1) (gm_zr rf n 1 none) (gm_zr im n 1 0) (gm_zr lm n 1 0) else none
def gm_mna (M : gm_M) (pc : Nat) (a b : Int32) (vs st : List Value) (n : Nat) (rf : gm_R) (im : gm_I) (lm : gm_L) : gm_O :=
  if gm_LAY[n]? = some (5, a.toNatClampNeg) ∧ ¬ a < 0 ∧ ¬ b < 0 ∧ b.toNatClampNeg ≤ 10000 ∧ (∀ j, j < a.toNatClampNeg → gm_LAY[n + 1 + j]? = some (1, b.toNatClampNeg)) ∧ n + (1 + a.toNatClampNeg) ≤ gm_s0 M + gm_nc M ∧ gm_s0 M ≤ n then
    gm_nx (pc + 4) vs (.ref n :: st) (n + 1 + a.toNatClampNeg) (fun q j => if q = n then (if j < a.toNatClampNeg then some (n + 1 + j) else none) else gm_zr rf n (1 + a.toNatClampNeg) none q j) (gm_zr im n (1 + a.toNatClampNeg) 0) (gm_zr lm n (1 + a.toNatClampNeg) 0) else none
/-- a field is read -/
def gm_get (pc ci k : Nat) (vs st : List Value) (n : Nat) (rf : gm_R) (im : gm_I) (lm : gm_L) : gm_O := gm_a st fun o r =>
  if o < n ∧ gm_LAY[o]? = some (0, ci) then
    match gm_fy ci k with
    | 0 => gm_nx (pc + 3) vs (.int (im o k) :: r) n rf im lm
    | 3 => gm_nx (pc + 3) vs (.int (im o k) :: r) n rf im lm
    | 1 => gm_nx (pc + 3) vs (.long (lm o k) :: r) n rf im lm
    | 2 => match rf o k with
      | some q => if q = 1030 then none else gm_nx (pc + 3) vs (.ref q :: r) n rf im lm
      | none => none
    | _ => none
  else none
/-- a field is written (a final one in a constructor of its own class alone) -/
def gm_put (M : gm_M) (pc ci k : Nat) (fin : Bool) (vs st : List Value) (n : Nat) (rf : gm_R) (im : gm_I) (lm : gm_L) : gm_O :=
  match st with
  | .int x :: .ref o :: r => if o < n ∧ gm_LAY[o]? = some (0, ci) ∧ fin = false ∧ (gm_fy ci k = 0 ∨ (gm_fy ci k = 3 ∧ (x = 0 ∨ x = 1))) then gm_nx (pc + 3) vs r n rf (gm_up im o k x) lm else none
  | .long x :: .ref o :: r => if o < n ∧ gm_LAY[o]? = some (0, ci) ∧ fin = false ∧ gm_fy ci k = 1 then gm_nx (pc + 3) vs r n rf im (gm_up lm o k x) else none
  | .ref q :: .ref o :: r => if o < n ∧ q < n ∧ gm_LAY[o]? = some (0, ci) ∧ fin = true ∧ gm_fy ci k = 2 then gm_nx (pc + 3) vs r n (gm_up rf o k (some q)) im lm else none
  | _ => none
def gm_fin (ci k : Nat) : Bool := match vwCl[ci]? with
  | some q => (q.2.1 k).2.2.2
  | none => false
/-- arraycopy of whole rows of ints from place 0 on -/
def gm_cpy (im : gm_I) (a b w : Nat) : gm_I := fun q j => if q = b ∧ j < w then im a j else im q j
/-- one instruction -/
def gm_stp (M : gm_M) (ins : Instr) (pc : Nat) (vs st : List Value) (n : Nat) (rf : gm_R) (im : gm_I) (lm : gm_L) : gm_O :=
  match ins with
  | .iconst c => gm_nx (pc + 1) vs (.int (Int32.ofInt c) :: st) n rf im lm
  | .bipush c => gm_nx (pc + 2) vs (.int (Int8.ofInt c).toInt32 :: st) n rf im lm
  | .sipush c => gm_nx (pc + 3) vs (.int (Int16.ofInt c).toInt32 :: st) n rf im lm
  | .lconst c => gm_nx (pc + 1) vs (.long (Int64.ofNat (c : Nat)) :: st) n rf im lm
  | .ldc i => match gm_k (gm_own M) i with
    | some q => gm_nx (pc + 2) vs (.int q.1 :: st) n rf im lm
    | none => if gm_own M = 6 ∧ i = 9 then gm_nx (pc + 2) vs (.ref 1010 :: st) n rf im lm else if gm_own M = 6 ∧ i = 62 then gm_nx (pc + 2) vs (.ref 1011 :: st) n rf im lm else none
  | .ldc_w i => match gm_k (gm_own M) i with
    | some q => gm_nx (pc + 3) vs (.int q.1 :: st) n rf im lm
    | none => none
  | .ldc2_w i => match gm_kl (gm_own M) i with
    | some q => gm_nx (pc + 3) vs (.long q.1 :: st) n rf im lm
    | none => none
  | .iload_n j => match vs[(j : Nat)]? with
    | some (.int x) => gm_nx (pc + 1) vs (.int x :: st) n rf im lm
    | _ => none
  | .iload j => match vs[j]? with
    | some (.int x) => gm_nx (pc + 2) vs (.int x :: st) n rf im lm
    | _ => none
  | .lload_n j => match vs[(j : Nat)]? with
    | some (.long x) => gm_nx (pc + 1) vs (.long x :: st) n rf im lm
    | _ => none
  | .lload j => match vs[j]? with
    | some (.long x) => gm_nx (pc + 2) vs (.long x :: st) n rf im lm
    | _ => none
  | .aload_n j => match vs[(j : Nat)]? with
    | some (.ref x) => if x = 1030 then none else gm_nx (pc + 1) vs (.ref x :: st) n rf im lm
    | _ => none
  | .istore_n j => gm_i st fun x r => match gm_s1 vs (j : Nat) (.int x) with
    | some ws => gm_nx (pc + 1) ws r n rf im lm
    | none => none
  | .istore j => gm_i st fun x r => match gm_s1 vs j (.int x) with
    | some ws => gm_nx (pc + 2) ws r n rf im lm
    | none => none
  | .lstore_n j => gm_l st fun x r => match gm_s2 vs (j : Nat) (.long x) with
    | some ws => gm_nx (pc + 1) ws r n rf im lm
    | none => none
  | .lstore j => gm_l st fun x r => match gm_s2 vs j (.long x) with
    | some ws => gm_nx (pc + 2) ws r n rf im lm
    | none => none
  | .astore_n j => gm_a st fun x r => if x = 1030 then none else match gm_s1 vs (j : Nat) (.ref x) with
    | some ws => gm_nx (pc + 1) ws r n rf im lm
    | none => none
  | .iinc j c => match vs[j]? with
    | some (.int x) => match gm_s1 vs j (.int (x + Int32.ofInt c)) with
      | some ws => gm_nx (pc + 3) ws st n rf im lm
      | none => none
    | _ => none
  | .iadd => gm_ii st fun x y r => gm_nx (pc + 1) vs (.int (x + y) :: r) n rf im lm
  | .isub => gm_ii st fun x y r => gm_nx (pc + 1) vs (.int (x - y) :: r) n rf im lm
  | .imul => gm_ii st fun x y r => gm_nx (pc + 1) vs (.int (x * y) :: r) n rf im lm
  | .iand => gm_ii st fun x y r => gm_nx (pc + 1) vs (.int (x &&& y) :: r) n rf im lm
  | .ior => gm_ii st fun x y r => gm_nx (pc + 1) vs (.int (x ||| y) :: r) n rf im lm
  | .ixor => gm_ii st fun x y r => gm_nx (pc + 1) vs (.int (x ^^^ y) :: r) n rf im lm
  | .idiv => gm_ii st fun x y r => if y = 0 then none else gm_nx (pc + 1) vs (.int (x / y) :: r) n rf im lm
  | .irem => gm_ii st fun x y r => if y = 0 then none else gm_nx (pc + 1) vs (.int (x - x / y * y) :: r) n rf im lm
  | .ishl => gm_ii st fun x y r => gm_nx (pc + 1) vs (.int (x <<< (y &&& 31)) :: r) n rf im lm
  | .ishr => gm_ii st fun x y r => gm_nx (pc + 1) vs (.int (x >>> (y &&& 31)) :: r) n rf im lm
  | .iushr => gm_ii st fun x y r => gm_nx (pc + 1) vs (.int (x.toUInt32 >>> (y.toUInt32 &&& Int32.toUInt32 31)).toInt32 :: r) n rf im lm
  | .ladd => gm_ll st fun x y r => gm_nx (pc + 1) vs (.long (x + y) :: r) n rf im lm
  | .lsub => gm_ll st fun x y r => gm_nx (pc + 1) vs (.long (x - y) :: r) n rf im lm
  | .lmul => gm_ll st fun x y r => gm_nx (pc + 1) vs (.long (x * y) :: r) n rf im lm
  | .lcmp => gm_ll st fun x y r => gm_nx (pc + 1) vs (.int (lg_cmp x y) :: r) n rf im lm
  | .lushr => match st with
    | .int y :: .long x :: r => gm_nx (pc + 1) vs (.long (x.toUInt64 >>> (y.toInt64.toUInt64 &&& Int64.toUInt64 63)).toInt64 :: r) n rf im lm
    | _ => none
  | .lshl => match st with
    | .int y :: .long x :: r => gm_nx (pc + 1) vs (.long (x <<< (y.toInt64 &&& 63)) :: r) n rf im lm
    | _ => none
  | .i2l => gm_i st fun x r => gm_nx (pc + 1) vs (.long x.toInt64 :: r) n rf im lm
  | .i2b => gm_i st fun x r => gm_nx (pc + 1) vs (.int x.toInt8.toInt32 :: r) n rf im lm
  | .i2c => gm_i st fun x r => gm_nx (pc + 1) vs (.int (x.toUInt32 % 65536).toInt32 :: r) n rf im lm
  | .l2i => gm_l st fun x r => gm_nx (pc + 1) vs (.int x.toInt32 :: r) n rf im lm
  | .dup => match st with
    | v :: r => if v.category = 1 then gm_nx (pc + 1) vs (v :: v :: r) n rf im lm else none
    | _ => none
  | .pop => match st with
    | v :: r => if v.category = 1 then gm_nx (pc + 1) vs r n rf im lm else none
    | _ => none
  | .dup2 => match st with
    | v :: w :: r => if v.category = 1 ∧ w.category = 1 then gm_nx (pc + 1) vs (v :: w :: v :: w :: r) n rf im lm else none
    | _ => none
  | .goto off => gm_jm pc off vs st n rf im lm
  | .ifCond c off => match gm_j pc off with
    | some t => gm_i st fun x r => if gm_cd c x 0 then gm_nx t vs r n rf im lm else gm_nx (pc + 3) vs r n rf im lm
    | none => none
  | .if_icmp c off => match gm_j pc off with
    | some t => gm_ii st fun x y r => if gm_cd c x y then gm_nx t vs r n rf im lm else gm_nx (pc + 3) vs r n rf im lm
    | none => none
  | .tableswitch d lo hi offs => gm_i st fun x r => if x.toInt < lo ∨ hi < x.toInt then gm_jm pc d vs r n rf im lm else match offs[(x.toInt - lo).toNat]? with
    | some off => gm_jm pc off vs r n rf im lm
    | none => none
  | .getfield i => match gm_f (gm_own M) i with
    | some q => gm_get pc q.2.1 q.2.2.1 vs st n rf im lm
    | none => if gm_own M = 17 ∧ i = 9 then gm_a st fun o r => if o = 1010 then gm_nx (pc + 3) vs (.ref 1020 :: r) n rf im lm else if o = 1011 then gm_nx (pc + 3) vs (.ref 1021 :: r) n rf im lm else none
      else if gm_own M = 17 ∧ i = 15 then gm_a st fun o r => if o = 1010 ∨ o = 1011 then gm_nx (pc + 3) vs (.int 0 :: r) n rf im lm else none else none
  | .putfield i => match gm_f (gm_own M) i with
    | some q => if gm_fin q.2.1 q.2.2.1 = true ∧ ((gm_y M).name ≠ "<init>" ∨ gm_On[gm_own M]? ≠ (vwCl[q.2.1]?).map (fun c => c.1) ∨ q.1 ≠ 0) then none else gm_put M pc q.2.1 q.2.2.1 (gm_fin q.2.1 q.2.2.1) vs st n rf im lm
    | none => none
  | .getstatic i => match gm_st (gm_own M) i with
    | some q => gm_nx (pc + 3) vs (.ref q.1 :: st) n rf im lm
    | none => if gm_own M = 17 ∧ i = 38 then gm_nx (pc + 3) vs (.int 1 :: st) n rf im lm else if gm_own M = 17 ∧ i = 1053 then gm_nx (pc + 3) vs (.ref 1030 :: st) n rf im lm else none
  | .iaload => match st with
    | .int i :: .ref a :: r => match gm_at im n a with
      | some (1, z) => if gm_in i z then gm_nx (pc + 1) vs (.int (im a i.toNatClampNeg) :: r) n rf im lm else none
      | _ => none
    | _ => none
  | .baload => match st with
    | .int i :: .ref a :: r => match gm_at im n a with
      | some (2, z) => if gm_in i z then gm_nx (pc + 1) vs (.int (im a i.toNatClampNeg) :: r) n rf im lm else none
      | some (3, z) => if gm_in i z then gm_nx (pc + 1) vs (.int (im a i.toNatClampNeg) :: r) n rf im lm else none
      | _ => none
    | _ => none
  | .laload => match st with
    | .int i :: .ref a :: r => if a < n then match gm_LAY[a]? with
      | some (4, z) => if gm_in i z then gm_nx (pc + 1) vs (.long (lm a i.toNatClampNeg) :: r) n rf im lm else none
      | _ => none
      else none
    | _ => none
  | .aaload => match st with
    | .int i :: .ref a :: r => if a < n then match gm_LAY[a]? with
      | some (5, z) => if gm_in i z then match rf a i.toNatClampNeg with
        | some q => if q = 1030 then none else gm_nx (pc + 1) vs (.ref q :: r) n rf im lm
        | none => none
        else none
      | _ => none
      else none
    | _ => none
  | .iastore => match st with
    | .int x :: .int i :: .ref a :: r => if a < n then match gm_LAY[a]? with
      | some (1, z) => if gm_in i z then gm_nx (pc + 1) vs r n rf (gm_up im a i.toNatClampNeg x) lm else none
      | _ => none
      else none
    | _ => none
  | .bastore => match st with
    | .int x :: .int i :: .ref a :: r => if a < n then match gm_LAY[a]? with
      | some (2, z) => if gm_in i z then gm_nx (pc + 1) vs r n rf (gm_up im a i.toNatClampNeg x.toInt8.toInt32) lm else none
      | some (3, z) => if gm_in i z ∧ (x = 0 ∨ x = 1) then gm_nx (pc + 1) vs r n rf (gm_up im a i.toNatClampNeg x) lm else none
      | _ => none
      else none
    | _ => none
  | .lastore => match st with
    | .long x :: .int i :: .ref a :: r => if a < n then match gm_LAY[a]? with
      | some (4, z) => if gm_in i z then gm_nx (pc + 1) vs r n rf im (gm_up lm a i.toNatClampNeg x) else none
      | _ => none
      else none
    | _ => none
  | .arraylength => gm_a st fun a r => match gm_at im n a with
    | some (0, _) => none
    | some (_, z) => gm_nx (pc + 1) vs (.int (Int32.ofNat z) :: r) n rf im lm
    | none => none
  | .new i => match gm_n (gm_own M) i with
    | some q => gm_new M q.1 pc vs st n rf im lm
    | none => none
  | .newarray t => gm_i st fun z r => match t with
    | .int => gm_nwa M 1 pc z vs r n rf im lm
    | .byte => gm_nwa M 2 pc z vs r n rf im lm
    | .boolean => gm_nwa M 3 pc z vs r n rf im lm
    | .long => gm_nwa M 4 pc z vs r n rf im lm
    | _ => none
  | .multianewarray i d => if gm_own M = 3 ∧ i = 11 ∧ d = 2 then gm_ii st fun a b r => gm_mna M pc a b vs r n rf im lm else none
  | .invokestatic i => match gm_c (gm_own M) i with
    | some (0, k, _) => match gm_MT[k]? with
      | some N => gm_cl M k pc vs st n (gm_np N)
      | none => none
    | some (4, k, _) => match gm_MT[k]? with
      | some N => gm_cl M k pc vs st n (gm_np N)
      | none => none
    | some (11, _) => gm_ii st fun x y r => if 1 ≤ gm_fr M ∧ 30 ≤ gm_lo M ∧ (r.map fun v => v.category).sum ≤ 8 ∧ gm_nc M = 0 then gm_nx (pc + 3) vs (.int (if x < y then y else x) :: r) n rf im lm else none
    | some (12, _) => gm_ii st fun x y r => if 1 ≤ gm_fr M ∧ 30 ≤ gm_lo M ∧ (r.map fun v => v.category).sum ≤ 8 ∧ gm_nc M = 0 then gm_nx (pc + 3) vs (.int (if y < x then y else x) :: r) n rf im lm else none
    | some (7, _) => match st with
      | .int w :: .int dp :: .ref b :: .int sp :: .ref a :: r => if a < n ∧ b < n ∧ a ≠ b ∧ sp = 0 ∧ dp = 0 ∧ w = 77 ∧ gm_LAY[a]? = some (1, 77) ∧ gm_LAY[b]? = some (1, 77) ∧ 1 ≤ gm_fr M ∧ 30 ≤ gm_lo M ∧ (r.map fun v => v.category).sum ≤ 8 then gm_nx (pc + 3) vs r n rf (gm_cpy im a b 77) lm else none
      | _ => none
    | _ => none
  | .invokevirtual i => match gm_c (gm_own M) i with
    | some (1, k, _) => match gm_MT[k]? with
      | some N => match st[gm_np N]? with
        | some (.ref o) => if (o = 1010 ∨ o = 1011) ∧ (gm_y N).cls = "java/lang/String" then gm_cl M k pc vs st n (gm_np N + 1) else if o < n ∧ gm_LAY[o]? = ((vwCl.findIdx? (fun c => c.1 == (gm_y N).cls)).map (fun c => (0, c))) ∧ (gm_LAY[o]?).isSome then gm_cl M k pc vs st n (gm_np N + 1) else none
        | _ => none
      | none => none
    | _ => none
  | .invokespecial i => match gm_c (gm_own M) i with
    | some (6, _) => if 1 ≤ gm_fr M ∧ 20 ≤ gm_lo M then gm_a st fun a r => if (r.map fun v => v.category).sum ≤ 8 ∧ a ≠ 1030 then gm_nx (pc + 3) vs r n rf im lm else none else none
    | some (2, k, _) => match gm_MT[k]? with
      | some N => match st[gm_np N]? with
        | some (.ref o) => if o < n then gm_cl M k pc vs st n (gm_np N + 1) else none
        | _ => none
      | none => none
    | some (3, k, _) => match gm_MT[k]? with
      | some N => match st[gm_np N]? with
        | some (.ref o) => if o < n then gm_cl M k pc vs st n (gm_np N + 1) else none
        | _ => none
      | none => none
    | _ => none
  | .ireturn => gm_i st fun x r => if r = [] then match gm_ret M with
    | some ty => if narrow ty (.int x) = .int x ∧ ty ≠ .long then some (.inr (.inl (some (.int x), n, rf, im, lm))) else none
    | none => none
    else none
  | .lreturn => gm_l st fun x r => if r = [] ∧ gm_ret M = some .long then some (.inr (.inl (some (.long x), n, rf, im, lm))) else none
  | .return_ => if st = [] ∧ gm_ret M = none then some (.inr (.inl (none, n, rf, im, lm))) else none
  | _ => none
def gm_ent (M : gm_M) (as : List Value) : List Value := (lg_sl as).map (fun s => match s with
  | .val v => v
  | _ => .null) ++ List.replicate (gm_ml M - (lg_sl as).length) .null
/-- the length that an instruction has -/
def gm_lnb (ins : Instr) (len : Nat) : Bool := match ins with
  | .bipush _ => decide (len = 2)
  | .sipush _ => decide (len = 3)
  | .ldc _ => decide (len = 2)
  | .ldc_w _ => decide (len = 3)
  | .ldc2_w _ => decide (len = 3)
  | .iload _ => decide (len = 2)
  | .lload _ => decide (len = 2)
  | .istore _ => decide (len = 2)
  | .lstore _ => decide (len = 2)
  | .iinc _ _ => decide (len = 3)
  | .goto _ => decide (len = 3)
  | .ifCond _ _ => decide (len = 3)
  | .if_icmp _ _ => decide (len = 3)
  | .tableswitch _ _ _ _ => true
  | .getfield _ => decide (len = 3)
  | .putfield _ => decide (len = 3)
  | .getstatic _ => decide (len = 3)
  | .new _ => decide (len = 3)
  | .newarray _ => decide (len = 2)
  | .multianewarray _ _ => decide (len = 4)
  | .invokestatic _ => decide (len = 3)
  | .invokevirtual _ => decide (len = 3)
  | .invokespecial _ => decide (len = 3)
  | _ => decide (len = 1)
def gm_run : Nat → Nat → Nat → List Value → List Value → Nat → gm_R → gm_I → gm_L → Option gm_Res
  | 0 => fun _ _ _ _ _ _ _ _ => none
  | f + 1 => fun k pc vs st n rf im lm =>
    match gm_MT[k]? with
    | none => none
    | some M => match decode (gm_b M) pc with
      | .ok (ins, len) => if gm_lnb ins len = true then match gm_stp M ins pc vs st n rf im lm with
        | none => none
        | some (.inl (pc', vs', st', n', rf', im', lm')) => gm_run f k pc' vs' st' n' rf' im' lm'
        | some (.inr (.inl r)) => some r
        | some (.inr (.inr (k', as, pc', rest))) => match gm_MT[k']? with
          | none => none
          | some N => if (lg_sl as).length ≤ gm_ml N then match gm_run f k' 0 (gm_ent N as) [] n rf im lm with
            | none => none
            | some (v, n', rf', im', lm') => if n' = n + gm_nc N then gm_run f k pc' vs (v.toList ++ rest) n' rf' im' lm' else none
            else none
        else none
      | _ => none
