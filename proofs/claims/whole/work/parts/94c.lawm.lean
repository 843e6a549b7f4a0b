/-! a law as it is read: signs that wait, codes as the reference holds them, steps as the class does -/
def LW : Type := (Nat → Nat) × Nat × (Nat → Nat × Nat) × Nat × (Nat → Nat × Nat) × Nat × Nat × Nat × (Nat → Nat) × (Nat → Nat) × (Nat → Nat) × (Nat → Nat) × (Nat → Nat) × (Nat → Nat) × (Nat → Nat)
def LW.W (s : LW) : Nat → Nat := s.1
def LW.wn (s : LW) : Nat := s.2.1
def LW.C (s : LW) : Nat → Nat × Nat := s.2.2.1
def LW.cn (s : LW) : Nat := s.2.2.2.1
def LW.S (s : LW) : Nat → Nat × Nat := s.2.2.2.2.1
def LW.sn (s : LW) : Nat := s.2.2.2.2.2.1
def LW.li (s : LW) : Nat := s.2.2.2.2.2.2.1
def LW.nb (s : LW) : Nat := s.2.2.2.2.2.2.2.1
def LW.hs (s : LW) : Nat → Nat := s.2.2.2.2.2.2.2.2.1
def LW.t0 (s : LW) : Nat → Nat := s.2.2.2.2.2.2.2.2.2.1
def LW.t1 (s : LW) : Nat → Nat := s.2.2.2.2.2.2.2.2.2.2.1
def LW.t2 (s : LW) : Nat → Nat := s.2.2.2.2.2.2.2.2.2.2.2.1
def LW.t3 (s : LW) : Nat → Nat := s.2.2.2.2.2.2.2.2.2.2.2.2.1
def LW.u (s : LW) : Nat → Nat := s.2.2.2.2.2.2.2.2.2.2.2.2.2.1
def LW.v (s : LW) : Nat → Nat := s.2.2.2.2.2.2.2.2.2.2.2.2.2.2
def LW.mk (W_ : Nat → Nat) (wn_ : Nat) (C_ : Nat → Nat × Nat) (cn_ : Nat) (S_ : Nat → Nat × Nat) (sn_ : Nat) (li_ : Nat) (nb_ : Nat) (hs_ : Nat → Nat) (t0_ : Nat → Nat) (t1_ : Nat → Nat) (t2_ : Nat → Nat) (t3_ : Nat → Nat) (u_ : Nat → Nat) (v_ : Nat → Nat) : LW := (W_, wn_, C_, cn_, S_, sn_, li_, nb_, hs_, t0_, t1_, t2_, t3_, u_, v_)
theorem LW_W (W_ : Nat → Nat) (wn_ : Nat) (C_ : Nat → Nat × Nat) (cn_ : Nat) (S_ : Nat → Nat × Nat) (sn_ : Nat) (li_ : Nat) (nb_ : Nat) (hs_ : Nat → Nat) (t0_ : Nat → Nat) (t1_ : Nat → Nat) (t2_ : Nat → Nat) (t3_ : Nat → Nat) (u_ : Nat → Nat) (v_ : Nat → Nat) : (LW.mk W_ wn_ C_ cn_ S_ sn_ li_ nb_ hs_ t0_ t1_ t2_ t3_ u_ v_).W = W_ := rfl
theorem LW_wn (W_ : Nat → Nat) (wn_ : Nat) (C_ : Nat → Nat × Nat) (cn_ : Nat) (S_ : Nat → Nat × Nat) (sn_ : Nat) (li_ : Nat) (nb_ : Nat) (hs_ : Nat → Nat) (t0_ : Nat → Nat) (t1_ : Nat → Nat) (t2_ : Nat → Nat) (t3_ : Nat → Nat) (u_ : Nat → Nat) (v_ : Nat → Nat) : (LW.mk W_ wn_ C_ cn_ S_ sn_ li_ nb_ hs_ t0_ t1_ t2_ t3_ u_ v_).wn = wn_ := rfl
theorem LW_C (W_ : Nat → Nat) (wn_ : Nat) (C_ : Nat → Nat × Nat) (cn_ : Nat) (S_ : Nat → Nat × Nat) (sn_ : Nat) (li_ : Nat) (nb_ : Nat) (hs_ : Nat → Nat) (t0_ : Nat → Nat) (t1_ : Nat → Nat) (t2_ : Nat → Nat) (t3_ : Nat → Nat) (u_ : Nat → Nat) (v_ : Nat → Nat) : (LW.mk W_ wn_ C_ cn_ S_ sn_ li_ nb_ hs_ t0_ t1_ t2_ t3_ u_ v_).C = C_ := rfl
theorem LW_cn (W_ : Nat → Nat) (wn_ : Nat) (C_ : Nat → Nat × Nat) (cn_ : Nat) (S_ : Nat → Nat × Nat) (sn_ : Nat) (li_ : Nat) (nb_ : Nat) (hs_ : Nat → Nat) (t0_ : Nat → Nat) (t1_ : Nat → Nat) (t2_ : Nat → Nat) (t3_ : Nat → Nat) (u_ : Nat → Nat) (v_ : Nat → Nat) : (LW.mk W_ wn_ C_ cn_ S_ sn_ li_ nb_ hs_ t0_ t1_ t2_ t3_ u_ v_).cn = cn_ := rfl
theorem LW_S (W_ : Nat → Nat) (wn_ : Nat) (C_ : Nat → Nat × Nat) (cn_ : Nat) (S_ : Nat → Nat × Nat) (sn_ : Nat) (li_ : Nat) (nb_ : Nat) (hs_ : Nat → Nat) (t0_ : Nat → Nat) (t1_ : Nat → Nat) (t2_ : Nat → Nat) (t3_ : Nat → Nat) (u_ : Nat → Nat) (v_ : Nat → Nat) : (LW.mk W_ wn_ C_ cn_ S_ sn_ li_ nb_ hs_ t0_ t1_ t2_ t3_ u_ v_).S = S_ := rfl
theorem LW_sn (W_ : Nat → Nat) (wn_ : Nat) (C_ : Nat → Nat × Nat) (cn_ : Nat) (S_ : Nat → Nat × Nat) (sn_ : Nat) (li_ : Nat) (nb_ : Nat) (hs_ : Nat → Nat) (t0_ : Nat → Nat) (t1_ : Nat → Nat) (t2_ : Nat → Nat) (t3_ : Nat → Nat) (u_ : Nat → Nat) (v_ : Nat → Nat) : (LW.mk W_ wn_ C_ cn_ S_ sn_ li_ nb_ hs_ t0_ t1_ t2_ t3_ u_ v_).sn = sn_ := rfl
theorem LW_li (W_ : Nat → Nat) (wn_ : Nat) (C_ : Nat → Nat × Nat) (cn_ : Nat) (S_ : Nat → Nat × Nat) (sn_ : Nat) (li_ : Nat) (nb_ : Nat) (hs_ : Nat → Nat) (t0_ : Nat → Nat) (t1_ : Nat → Nat) (t2_ : Nat → Nat) (t3_ : Nat → Nat) (u_ : Nat → Nat) (v_ : Nat → Nat) : (LW.mk W_ wn_ C_ cn_ S_ sn_ li_ nb_ hs_ t0_ t1_ t2_ t3_ u_ v_).li = li_ := rfl
theorem LW_nb (W_ : Nat → Nat) (wn_ : Nat) (C_ : Nat → Nat × Nat) (cn_ : Nat) (S_ : Nat → Nat × Nat) (sn_ : Nat) (li_ : Nat) (nb_ : Nat) (hs_ : Nat → Nat) (t0_ : Nat → Nat) (t1_ : Nat → Nat) (t2_ : Nat → Nat) (t3_ : Nat → Nat) (u_ : Nat → Nat) (v_ : Nat → Nat) : (LW.mk W_ wn_ C_ cn_ S_ sn_ li_ nb_ hs_ t0_ t1_ t2_ t3_ u_ v_).nb = nb_ := rfl
theorem LW_hs (W_ : Nat → Nat) (wn_ : Nat) (C_ : Nat → Nat × Nat) (cn_ : Nat) (S_ : Nat → Nat × Nat) (sn_ : Nat) (li_ : Nat) (nb_ : Nat) (hs_ : Nat → Nat) (t0_ : Nat → Nat) (t1_ : Nat → Nat) (t2_ : Nat → Nat) (t3_ : Nat → Nat) (u_ : Nat → Nat) (v_ : Nat → Nat) : (LW.mk W_ wn_ C_ cn_ S_ sn_ li_ nb_ hs_ t0_ t1_ t2_ t3_ u_ v_).hs = hs_ := rfl
theorem LW_t0 (W_ : Nat → Nat) (wn_ : Nat) (C_ : Nat → Nat × Nat) (cn_ : Nat) (S_ : Nat → Nat × Nat) (sn_ : Nat) (li_ : Nat) (nb_ : Nat) (hs_ : Nat → Nat) (t0_ : Nat → Nat) (t1_ : Nat → Nat) (t2_ : Nat → Nat) (t3_ : Nat → Nat) (u_ : Nat → Nat) (v_ : Nat → Nat) : (LW.mk W_ wn_ C_ cn_ S_ sn_ li_ nb_ hs_ t0_ t1_ t2_ t3_ u_ v_).t0 = t0_ := rfl
theorem LW_t1 (W_ : Nat → Nat) (wn_ : Nat) (C_ : Nat → Nat × Nat) (cn_ : Nat) (S_ : Nat → Nat × Nat) (sn_ : Nat) (li_ : Nat) (nb_ : Nat) (hs_ : Nat → Nat) (t0_ : Nat → Nat) (t1_ : Nat → Nat) (t2_ : Nat → Nat) (t3_ : Nat → Nat) (u_ : Nat → Nat) (v_ : Nat → Nat) : (LW.mk W_ wn_ C_ cn_ S_ sn_ li_ nb_ hs_ t0_ t1_ t2_ t3_ u_ v_).t1 = t1_ := rfl
theorem LW_t2 (W_ : Nat → Nat) (wn_ : Nat) (C_ : Nat → Nat × Nat) (cn_ : Nat) (S_ : Nat → Nat × Nat) (sn_ : Nat) (li_ : Nat) (nb_ : Nat) (hs_ : Nat → Nat) (t0_ : Nat → Nat) (t1_ : Nat → Nat) (t2_ : Nat → Nat) (t3_ : Nat → Nat) (u_ : Nat → Nat) (v_ : Nat → Nat) : (LW.mk W_ wn_ C_ cn_ S_ sn_ li_ nb_ hs_ t0_ t1_ t2_ t3_ u_ v_).t2 = t2_ := rfl
theorem LW_t3 (W_ : Nat → Nat) (wn_ : Nat) (C_ : Nat → Nat × Nat) (cn_ : Nat) (S_ : Nat → Nat × Nat) (sn_ : Nat) (li_ : Nat) (nb_ : Nat) (hs_ : Nat → Nat) (t0_ : Nat → Nat) (t1_ : Nat → Nat) (t2_ : Nat → Nat) (t3_ : Nat → Nat) (u_ : Nat → Nat) (v_ : Nat → Nat) : (LW.mk W_ wn_ C_ cn_ S_ sn_ li_ nb_ hs_ t0_ t1_ t2_ t3_ u_ v_).t3 = t3_ := rfl
theorem LW_u (W_ : Nat → Nat) (wn_ : Nat) (C_ : Nat → Nat × Nat) (cn_ : Nat) (S_ : Nat → Nat × Nat) (sn_ : Nat) (li_ : Nat) (nb_ : Nat) (hs_ : Nat → Nat) (t0_ : Nat → Nat) (t1_ : Nat → Nat) (t2_ : Nat → Nat) (t3_ : Nat → Nat) (u_ : Nat → Nat) (v_ : Nat → Nat) : (LW.mk W_ wn_ C_ cn_ S_ sn_ li_ nb_ hs_ t0_ t1_ t2_ t3_ u_ v_).u = u_ := rfl
theorem LW_v (W_ : Nat → Nat) (wn_ : Nat) (C_ : Nat → Nat × Nat) (cn_ : Nat) (S_ : Nat → Nat × Nat) (sn_ : Nat) (li_ : Nat) (nb_ : Nat) (hs_ : Nat → Nat) (t0_ : Nat → Nat) (t1_ : Nat → Nat) (t2_ : Nat → Nat) (t3_ : Nat → Nat) (u_ : Nat → Nat) (v_ : Nat → Nat) : (LW.mk W_ wn_ C_ cn_ S_ sn_ li_ nb_ hs_ t0_ t1_ t2_ t3_ u_ v_).v = v_ := rfl
def opC (k : Nat) : Nat := if k = 43 then 2 else if k = 45 then 3 else if k = 42 then 4 else 5
def rkC (k : Nat) : Nat := if k = 40 then 0 else if k = 42 then 2 else if k = 47 then 2 else 1
def enS (c : Nat × Nat) : Nat × Nat := if c.1 < 2 then c else (if c.1 = 2 then 43 else if c.1 = 3 then 45 else if c.1 = 4 then 42 else 47, 0)
def apC (s : LW) (c : Nat × Nat) : LW := (LW.mk s.W s.wn (udN s.C s.cn c) (s.cn + 1) (udN s.S s.sn (enS c)) (s.sn + 1) s.li s.nb s.hs s.t0 s.t1 s.t2 s.t3 s.u s.v)
def apS (s : LW) (c : Nat × Nat) : LW := (LW.mk s.W s.wn s.C s.cn (udN s.S s.sn c) (s.sn + 1) s.li s.nb s.hs s.t0 s.t1 s.t2 s.t3 s.u s.v)
def popW (s : LW) : LW := apC (LW.mk s.W (s.wn - 1) s.C s.cn s.S s.sn s.li s.nb s.hs s.t0 s.t1 s.t2 s.t3 s.u s.v) (opC (s.W (s.wn - 1)), 0)
def psW (s : LW) (k : Nat) : LW := (LW.mk (udN s.W s.wn k) (s.wn + 1) s.C s.cn s.S s.sn s.li s.nb s.hs s.t0 s.t1 s.t2 s.t3 s.u s.v)
def relF (r : Nat) : Nat → LW → LW
  | 0, s => s
  | f + 1, s => if 0 < s.wn ∧ r ≤ rkC (s.W (s.wn - 1)) then relF r f (popW s) else s
def rel (r : Nat) (s : LW) : LW := relF r s.wn s
def lwT (s : LW) (k v : Nat) : LW :=
  if k = 2 then apC s (0, v)
  else if 139 ≤ k then apC s (1, k - 139)
  else if k = 137 then apS (LW.mk ((rel 1 s).W) ((rel 1 s).wn) ((rel 1 s).C) ((rel 1 s).cn) ((rel 1 s).S) ((rel 1 s).sn) ((rel 1 s).sn) ((rel 1 s).nb) ((rel 1 s).hs) ((rel 1 s).t0) ((rel 1 s).t1) (udN (rel 1 s).t2 s.nb (rel 1 s).cn) ((rel 1 s).t3) ((rel 1 s).u) ((rel 1 s).v)) (60, 0)
  else if k = 138 then (LW.mk ((apS (rel 1 s) (2, 0)).W) ((apS (rel 1 s) (2, 0)).wn) ((apS (rel 1 s) (2, 0)).C) ((apS (rel 1 s) (2, 0)).cn) (udN (udN (rel 1 s).S (rel 1 s).sn (2, 0)) s.li (60, (rel 1 s).sn + 1)) ((apS (rel 1 s) (2, 0)).sn) ((apS (rel 1 s) (2, 0)).li) (s.nb + 1) (udN s.hs (s.nb + 1) 0) ((apS (rel 1 s) (2, 0)).t0) ((apS (rel 1 s) (2, 0)).t1) (udN s.t2 (s.nb + 1) (rel 1 s).cn) (udN s.t3 s.nb (rel 1 s).cn) (udN s.u (s.nb + 1) ((rel 1 s).sn + 1)) (udN s.v (s.nb + 1) (rel 1 s).cn))
  else if k = 59 then (LW.mk ((apS (rel 1 s) (2, 0)).W) ((apS (rel 1 s) (2, 0)).wn) ((apS (rel 1 s) (2, 0)).C) ((apS (rel 1 s) (2, 0)).cn) ((apS (rel 1 s) (2, 0)).S) ((apS (rel 1 s) (2, 0)).sn) ((apS (rel 1 s) (2, 0)).li) (s.nb + 1) ((apS (rel 1 s) (2, 0)).hs) ((apS (rel 1 s) (2, 0)).t0) ((apS (rel 1 s) (2, 0)).t1) ((apS (rel 1 s) (2, 0)).t2) (udN s.t3 s.nb (rel 1 s).cn) ((apS (rel 1 s) (2, 0)).u) ((apS (rel 1 s) (2, 0)).v))
  else if k = 60 then (LW.mk ((rel 1 s).W) ((rel 1 s).wn) ((rel 1 s).C) ((rel 1 s).cn) ((rel 1 s).S) ((rel 1 s).sn) ((rel 1 s).li) ((rel 1 s).nb) ((rel 1 s).hs) ((rel 1 s).t0) (udN s.t1 s.nb (rel 1 s).cn) ((rel 1 s).t2) ((rel 1 s).t3) ((rel 1 s).u) ((rel 1 s).v))
  else if k = 41 then (LW.mk ((rel 1 s).W) ((rel 1 s).wn - 1) ((rel 1 s).C) ((rel 1 s).cn) ((rel 1 s).S) ((rel 1 s).sn) ((rel 1 s).li) ((rel 1 s).nb) ((rel 1 s).hs) ((rel 1 s).t0) ((rel 1 s).t1) ((rel 1 s).t2) ((rel 1 s).t3) ((rel 1 s).u) ((rel 1 s).v))
  else if k = 136 then (LW.mk s.W s.wn s.C s.cn s.S s.sn s.li s.nb (udN s.hs s.nb 1) (udN s.t0 s.nb s.cn) s.t1 s.t2 s.t3 s.u s.v)
  else if k = 40 then psW s 40
  else psW (rel (rkC k) s) k
def L0 : LW := ⟨fun _ => 0, 0, fun _ => (0, 0), 0, fun _ => (0, 0), 0, 0, 0, fun _ => 0, fun _ => 0, fun _ => 0, fun _ => 0, fun _ => 0, fun _ => 0, fun _ => 0⟩
def lwR (K V : Nat → Nat) (a : Nat) : Nat → LW
  | 0 => L0
  | x + 1 => lwT (lwR K V a x) (K (a + x)) (V (a + x))
/-! heights -/
def cHt (C : Nat → Nat × Nat) (p : Nat) : Nat → Nat
  | 0 => 0
  | x + 1 => if (C (p + x)).1 < 2 then cHt C p x + 1 else cHt C p x - 1
def cCd (C : Nat → Nat × Nat) (p x : Nat) : Prop := ((C (p + x)).1 = 0 ∧ (C (p + x)).2 ≤ 9999) ∨ ((C (p + x)).1 = 1 ∧ (C (p + x)).2 < 9) ∨ (2 ≤ (C (p + x)).1 ∧ (C (p + x)).1 ≤ 5 ∧ (C (p + x)).2 = 0 ∧ 2 ≤ cHt C p x)
def sgH (C : Nat → Nat × Nat) (p q h : Nat) : Prop := p ≤ q ∧ (∀ x, x < q - p → cCd C p x) ∧ cHt C p (q - p) = h
theorem cHt_cg {C C' : Nat → Nat × Nat} {p : Nat} : ∀ {x : Nat}, (∀ y, p ≤ y → y < p + x → C' y = C y) → cHt C' p x = cHt C p x := by
  intro x
  induction x with
  | zero => intro _; rfl
  | succ x ih => intro h; simp only [cHt]; rw [ih (fun y a b => h y a (by omega)), h (p + x) (by omega) (by omega)]
theorem sgH_cg {C C' : Nat → Nat × Nat} {p q h : Nat} (hc : ∀ y, p ≤ y → y < q → C' y = C y) (k : sgH C p q h) : sgH C' p q h := by
  obtain ⟨k1, k2, k3⟩ := k
  refine ⟨k1, fun x hx => ?_, ?_⟩
  · have := k2 x hx
    unfold cCd at this ⊢
    rw [hc (p + x) (by omega) (by omega), cHt_cg (fun y a b => hc y a (by omega))]
    exact this
  · rw [cHt_cg (fun y a b => hc y a (by omega))]; exact k3
/-- the stack of signs: within a bracket they bind closer and closer -/
def stO (W : Nat → Nat) : Nat → Prop
  | 0 => True
  | n + 1 => stO W n ∧ (W n = 40 ∨ ((W n = 43 ∨ W n = 45 ∨ W n = 42 ∨ W n = 47) ∧ (n = 0 ∨ rkC (W (n - 1)) < rkC (W n))))
def nOp (W : Nat → Nat) : Nat → Nat
  | 0 => 0
  | n + 1 => if W n = 40 then nOp W n else nOp W n + 1
def n40 (W : Nat → Nat) : Nat → Nat
  | 0 => 0
  | n + 1 => if W n = 40 then n40 W n + 1 else n40 W n
theorem stO_cg {W W' : Nat → Nat} : ∀ {n : Nat}, (∀ y, y < n → W' y = W y) → stO W n → stO W' n := by
  intro n
  induction n with
  | zero => intro _ _; trivial
  | succ n ih =>
    intro h k
    refine ⟨ih (fun y hy => h y (by omega)) k.1, ?_⟩
    rw [h n (by omega)]
    rcases k.2 with e | ⟨e, f⟩
    · exact Or.inl e
    · refine Or.inr ⟨e, ?_⟩
      by_cases h0 : n = 0
      · exact Or.inl h0
      · rw [h (n - 1) (by omega)]; exact f
theorem nOp_cg {W W' : Nat → Nat} : ∀ {n : Nat}, (∀ y, y < n → W' y = W y) → nOp W' n = nOp W n ∧ n40 W' n = n40 W n := by
  intro n
  induction n with
  | zero => intro _; exact ⟨rfl, rfl⟩
  | succ n ih => intro h; simp only [nOp, n40]; rw [h n (by omega), (ih (fun y hy => h y (by omega))).1, (ih (fun y hy => h y (by omega))).2]; exact ⟨rfl, rfl⟩
theorem nOp_sum {W : Nat → Nat} : ∀ n : Nat, nOp W n + n40 W n = n := by
  intro n
  induction n with
  | zero => rfl
  | succ n ih => simp only [nOp, n40]; split <;> omega
theorem rkC_le (k : Nat) : rkC k ≤ 2 := by unfold rkC; split; decide; split; decide; split <;> decide
theorem stO_len {W : Nat → Nat} : ∀ {n : Nat}, stO W n → n ≤ 3 * n40 W n + (if n = 0 then 0 else rkC (W (n - 1))) := by
  intro n
  induction n with
  | zero => intro _; exact Nat.zero_le _
  | succ n ih =>
    intro ⟨h1, h2⟩
    have h3 := ih h1
    rw [if_neg (by omega)]
    simp only [Nat.add_sub_cancel, n40]
    have h4 := rkC_le (W (n - 1))
    rcases h2 with e | ⟨e, f⟩
    · rw [if_pos e]
      by_cases h0 : n = 0
      · subst h0; omega
      · rw [if_neg h0] at h3; omega
    · have e4 : ¬ W n = 40 := by omega
      rw [if_neg e4]
      rcases f with f | f
      · subst f
        have : 1 ≤ rkC (W 0) := by rcases e with e | e | e | e <;> rw [e] <;> decide
        rw [if_pos rfl] at h3
        omega
      · by_cases h0 : n = 0
        · subst h0
          have : 1 ≤ rkC (W 0) := by rcases e with e | e | e | e <;> rw [e] <;> decide
          rw [if_pos rfl] at h3
          omega
        · rw [if_neg h0] at h3; omega
/-! what stands while a law is read -/
/-- the expression that is being read: from p on, so high; the signs that wait -/
def exH (s : LW) (p h : Nat) : Prop := sgH s.C p s.cn h ∧ stO s.W s.wn
/-- a stretch of steps is a stretch of codes -/
def sgS (s : LW) (u p d : Nat) : Prop := ∀ x, x < d → s.S (u + x) = enS (s.C (p + x))
/-- a finished branch with a test -/
def brT (s : LW) (b : Nat) : Prop := s.hs b = 1 ∧ s.t0 b = s.v b ∧ sgH s.C (s.t0 b) (s.t1 b) 1 ∧ sgH s.C (s.t1 b) (s.t2 b) 1 ∧ sgH s.C (s.t2 b) (s.t3 b) 1 ∧ s.t3 b ≤ s.cn ∧ s.u b + (s.t3 b - s.v b) + 2 ≤ s.sn ∧ sgS s (s.u b) (s.v b) (s.t2 b - s.v b) ∧ s.S (s.u b + (s.t2 b - s.v b)) = (60, s.u (b + 1)) ∧ sgS s (s.u b + (s.t2 b - s.v b) + 1) (s.t2 b) (s.t3 b - s.t2 b) ∧ s.S (s.u b + (s.t3 b - s.v b) + 1) = (2, 0) ∧ s.u (b + 1) = s.u b + (s.t3 b - s.v b) + 2 ∧ s.v (b + 1) = s.t3 b
/-- the last branch -/
def brL (s : LW) (b : Nat) : Prop := s.hs b = 0 ∧ sgH s.C (s.t2 b) (s.t3 b) 1 ∧ s.t3 b ≤ s.cn ∧ s.t2 b = s.v b ∧ sgS s (s.u b) (s.v b) (s.t3 b - s.v b) ∧ s.S (s.u b + (s.t3 b - s.v b)) = (2, 0) ∧ s.u b + (s.t3 b - s.v b) + 1 ≤ s.sn
theorem sgH_lt {C : Nat → Nat × Nat} {p q : Nat} (h : sgH C p q 1) : p < q := by
  obtain ⟨h1, _, h3⟩ := h
  apply Classical.byContradiction
  intro hc
  rw [show q - p = 0 by omega] at h3
  exact absurd h3 (by show ¬ (0 : Nat) = 1; decide)
/-- one more code -/
theorem sgH_ap {s : LW} {p h : Nat} {c : Nat × Nat} (k : sgH s.C p s.cn h) (hc : (c.1 = 0 ∧ c.2 ≤ 9999) ∨ (c.1 = 1 ∧ c.2 < 9)) : sgH (apC s c).C p (apC s c).cn (h + 1) := by
  obtain ⟨k1, k2, k3⟩ := k
  have hC : ∀ y, y < s.cn → (apC s c).C y = s.C y := fun y hy => by show udN s.C s.cn c y = s.C y; unfold udN; rw [if_neg (by omega)]
  have hN : (apC s c).C s.cn = c := by show udN s.C s.cn c s.cn = c; unfold udN; rw [if_pos rfl]
  show sgH (apC s c).C p (s.cn + 1) (h + 1)
  refine ⟨by omega, fun x hx => ?_, ?_⟩
  · by_cases hx2 : x < s.cn - p
    · have := k2 x hx2
      unfold cCd at this ⊢
      rw [hC (p + x) (by omega), cHt_cg (fun y a b => hC y (by omega))]
      exact this
    · have e : p + x = s.cn := by omega
      unfold cCd
      rw [e, hN]
      rcases hc with h | h
      · exact Or.inl h
      · exact Or.inr (Or.inl h)
  · rw [show s.cn + 1 - p = (s.cn - p) + 1 by omega]
    simp only [cHt]
    rw [show p + (s.cn - p) = s.cn by omega, hN, cHt_cg (fun y a b => hC y (by omega)), k3, if_pos (by omega)]
theorem sgH_op {s : LW} {p h : Nat} {c : Nat × Nat} (k : sgH s.C p s.cn h) (hc : 2 ≤ c.1 ∧ c.1 ≤ 5 ∧ c.2 = 0) (hh : 2 ≤ h) : sgH (apC s c).C p (apC s c).cn (h - 1) := by
  obtain ⟨k1, k2, k3⟩ := k
  have hC : ∀ y, y < s.cn → (apC s c).C y = s.C y := fun y hy => by show udN s.C s.cn c y = s.C y; unfold udN; rw [if_neg (by omega)]
  have hN : (apC s c).C s.cn = c := by show udN s.C s.cn c s.cn = c; unfold udN; rw [if_pos rfl]
  show sgH (apC s c).C p (s.cn + 1) (h - 1)
  refine ⟨by omega, fun x hx => ?_, ?_⟩
  · by_cases hx2 : x < s.cn - p
    · have := k2 x hx2
      unfold cCd at this ⊢
      rw [hC (p + x) (by omega), cHt_cg (fun y a b => hC y (by omega))]
      exact this
    · have e : p + x = s.cn := by omega
      have e2 : x = s.cn - p := by omega
      unfold cCd
      rw [e, hN, e2, cHt_cg (fun y a b => hC y (by omega)), k3]
      exact Or.inr (Or.inr ⟨hc.1, hc.2.1, hc.2.2, hh⟩)
  · rw [show s.cn + 1 - p = (s.cn - p) + 1 by omega]
    simp only [cHt]
    rw [show p + (s.cn - p) = s.cn by omega, hN, cHt_cg (fun y a b => hC y (by omega)), k3, if_neg (by omega)]
/-- what a step leaves: all but codes, steps and signs; and of these what stood -/
def Kp (s s' : LW) : Prop := s.cn ≤ s'.cn ∧ s'.sn = s.sn + (s'.cn - s.cn) ∧ (∀ x, x < s.cn → s'.C x = s.C x) ∧ (∀ x, x < s.sn → s'.S x = s.S x) ∧ (∀ x, x < s'.cn - s.cn → s'.S (s.sn + x) = enS (s'.C (s.cn + x))) ∧ (s'.li = s.li ∧ s'.nb = s.nb ∧ s'.hs = s.hs ∧ s'.t0 = s.t0 ∧ s'.t1 = s.t1 ∧ s'.t2 = s.t2 ∧ s'.t3 = s.t3 ∧ s'.u = s.u ∧ s'.v = s.v)
theorem Kp.cn {s s' : LW} (h : Kp s s') : s.cn ≤ s'.cn := h.1
theorem Kp.sn {s s' : LW} (h : Kp s s') : s'.sn = s.sn + (s'.cn - s.cn) := h.2.1
theorem Kp.C {s s' : LW} (h : Kp s s') : ∀ x, x < s.cn → s'.C x = s.C x := h.2.2.1
theorem Kp.S {s s' : LW} (h : Kp s s') : ∀ x, x < s.sn → s'.S x = s.S x := h.2.2.2.1
theorem Kp.N {s s' : LW} (h : Kp s s') : ∀ x, x < s'.cn - s.cn → s'.S (s.sn + x) = enS (s'.C (s.cn + x)) := h.2.2.2.2.1
theorem Kp.r {s s' : LW} (h : Kp s s') : s'.li = s.li ∧ s'.nb = s.nb ∧ s'.hs = s.hs ∧ s'.t0 = s.t0 ∧ s'.t1 = s.t1 ∧ s'.t2 = s.t2 ∧ s'.t3 = s.t3 ∧ s'.u = s.u ∧ s'.v = s.v := h.2.2.2.2.2
theorem Kp.rf (s : LW) : Kp s s := ⟨Nat.le_refl _, by omega, fun _ _ => rfl, fun _ _ => rfl, fun x hx => absurd hx (by omega), rfl, rfl, rfl, rfl, rfl, rfl, rfl, rfl, rfl⟩
theorem Kp.tr {a b c : LW} (h : Kp a b) (k : Kp b c) : Kp a c := by
  refine ⟨Nat.le_trans h.cn k.cn, by rw [k.sn, h.sn]; have := h.cn; have := k.cn; omega, fun x hx => by rw [k.C x (by have := h.cn; omega), h.C x hx], fun x hx => by rw [k.S x (by have := h.sn; omega), h.S x hx], fun x hx => ?_, ?_⟩
  · by_cases h1 : x < b.cn - a.cn
    · rw [k.S _ (by have := h.sn; omega), h.N x h1, k.C _ (by have := h.cn; omega)]
    · have := k.N (x - (b.cn - a.cn)) (by have := h.cn; have := k.cn; omega)
      rw [show b.sn + (x - (b.cn - a.cn)) = a.sn + x by have := h.sn; omega, show b.cn + (x - (b.cn - a.cn)) = a.cn + x by have := h.cn; omega] at this
      exact this
  · obtain ⟨h1, h2, h3, h4, h5, h6, h7, h8, h9⟩ := h.r
    obtain ⟨k1, k2, k3, k4, k5, k6, k7, k8, k9⟩ := k.r
    exact ⟨k1.trans h1, k2.trans h2, k3.trans h3, k4.trans h4, k5.trans h5, k6.trans h6, k7.trans h7, k8.trans h8, k9.trans h9⟩
theorem Kp.ap (s : LW) (c : Nat × Nat) : Kp s (apC s c) := by
  refine ⟨by show s.cn ≤ s.cn + 1; omega, by show s.sn + 1 = s.sn + (s.cn + 1 - s.cn); omega, fun x hx => by show udN s.C s.cn _ x = s.C x; unfold udN; rw [if_neg (by omega)], fun x hx => by show udN s.S s.sn _ x = s.S x; unfold udN; rw [if_neg (by omega)], fun x hx => ?_, rfl, rfl, rfl, rfl, rfl, rfl, rfl, rfl, rfl⟩
  have hx' : x < s.cn + 1 - s.cn := hx
  have : x = 0 := by omega
  subst this
  show udN s.S s.sn _ (s.sn + 0) = enS (udN s.C s.cn _ (s.cn + 0))
  simp [udN]
theorem Kp.pop (s : LW) : Kp s (popW s) := by
  have h := Kp.ap (LW.mk s.W (s.wn - 1) s.C s.cn s.S s.sn s.li s.nb s.hs s.t0 s.t1 s.t2 s.t3 s.u s.v) (opC (s.W (s.wn - 1)), 0)
  exact ⟨h.cn, h.sn, h.C, h.S, h.N, h.r⟩
theorem Kp.ps (s : LW) (k : Nat) : Kp s (psW s k) := ⟨Nat.le_refl _, by show s.sn = s.sn + (s.cn - s.cn); omega, fun _ _ => rfl, fun _ _ => rfl, fun x hx => absurd hx (by show ¬ x < s.cn - s.cn; omega), rfl, rfl, rfl, rfl, rfl, rfl, rfl, rfl, rfl⟩
/-- releasing: heights go down with the signs -/
theorem rel_spec (r : Nat) (hr : 1 ≤ r) (p : Nat) : ∀ (f : Nat) (s : LW), s.wn ≤ f → stO s.W s.wn → sgH s.C p s.cn (nOp s.W s.wn + 1) →
    Kp s (relF r f s) ∧ (relF r f s).wn ≤ s.wn ∧ (relF r f s).wn + (relF r f s).cn = s.wn + s.cn ∧ stO (relF r f s).W (relF r f s).wn ∧ sgH (relF r f s).C p (relF r f s).cn (nOp (relF r f s).W (relF r f s).wn + 1) ∧ n40 (relF r f s).W (relF r f s).wn = n40 s.W s.wn ∧ ((relF r f s).wn = 0 ∨ rkC ((relF r f s).W ((relF r f s).wn - 1)) < r) ∧ (relF r f s).W = s.W := by
  intro f
  induction f with
  | zero =>
    intro s hf h1 h2
    exact ⟨Kp.rf s, Nat.le_refl _, rfl, h1, h2, rfl, Or.inl (by show s.wn = 0; omega), rfl⟩
  | succ f ih =>
    intro s hf h1 h2
    by_cases hc : 0 < s.wn ∧ r ≤ rkC (s.W (s.wn - 1))
    · have e : relF r (f + 1) s = relF r f (popW s) := by simp only [relF]; rw [if_pos hc]
      rw [e]
      obtain ⟨m, hm⟩ : ∃ m, s.wn = m + 1 := ⟨s.wn - 1, by omega⟩
      have hW : (popW s).W = s.W := rfl
      have hn : (popW s).wn = m := by show s.wn - 1 = m; omega
      have hcn : (popW s).cn = s.cn + 1 := rfl
      have hk : ¬ s.W m = 40 := by
        intro h4
        have := hc.2
        rw [show s.wn - 1 = m by omega, h4] at this
        have : rkC 40 = 0 := rfl
        omega
      rw [hm] at h1 h2
      have ho : nOp s.W (m + 1) = nOp s.W m + 1 := by simp only [nOp]; rw [if_neg hk]
      have h4 : n40 s.W (m + 1) = n40 s.W m := by simp only [n40]; rw [if_neg hk]
      have hop : 2 ≤ (opC (s.W (s.wn - 1)), 0).1 ∧ (opC (s.W (s.wn - 1)), 0).1 ≤ 5 ∧ (opC (s.W (s.wn - 1)), 0).2 = 0 := by
        show 2 ≤ opC _ ∧ opC _ ≤ 5 ∧ _
        unfold opC
        refine ⟨?_, ?_, rfl⟩ <;> (split; decide; split; decide; split <;> decide)
      have hs : sgH (popW s).C p (popW s).cn (nOp s.W m + 1) := by
        have := sgH_op (s := (LW.mk s.W (s.wn - 1) s.C s.cn s.S s.sn s.li s.nb s.hs s.t0 s.t1 s.t2 s.t3 s.u s.v)) (p := p) (h := nOp s.W (m + 1) + 1) (c := (opC (s.W (s.wn - 1)), 0)) h2 hop (by omega)
        rw [ho] at this
        exact this
      obtain ⟨k1, k2, k3, k4, k5, k6, k7, k8⟩ := ih (popW s) (by rw [hn]; omega) (by rw [hW, hn]; exact h1.1) (by rw [hW, hn]; exact hs)
      rw [hn] at k2 k3 k6
      rw [hcn] at k3
      rw [hW] at k6 k8
      exact ⟨(Kp.pop s).tr k1, by omega, by omega, k4, k5, by rw [hm, h4]; exact k6, k7, k8⟩
    · have e : relF r (f + 1) s = s := by simp only [relF]; rw [if_neg hc]
      rw [e]
      refine ⟨Kp.rf s, Nat.le_refl _, rfl, h1, h2, rfl, ?_, rfl⟩
      by_cases h0 : s.wn = 0
      · exact Or.inl h0
      · refine Or.inr ?_
        apply Classical.byContradiction
        intro hn
        exact hc ⟨by omega, by omega⟩
