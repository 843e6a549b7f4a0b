/-! sets of speakers as sets of men -/
theorem fI_foldl {α : Type} (g : α → Nat → α) (z : α) (n : Nat) : fI g z n = (List.range n).foldl g z := by
  induction n with
  | zero => rfl
  | succ n ih => rw [List.range_succ, List.foldl_append, ← ih]; rfl
def subs (M : Nat) : List Nat := (List.range 128).filter (fun s => s &&& M == s)
theorem subs_all : ∀ M : Fin 128, (List.range (2 ^ gc (fun a => M.val.testBit a) 7)).map (spr (fun a => M.val.testBit a) 7) = subs M.val := by decide +kernel
theorem spr_pc_all : ∀ M : Fin 128, ∀ s : Fin 128, s.val < 2 ^ gc (fun a => M.val.testBit a) 7 → pc (spr (fun a => M.val.testBit a) 7 s.val) = pc s.val := by decide +kernel
theorem gc_ext {f g : Nat → Bool} {n : Nat} (h : ∀ i, i < n → f i = g i) : gc f n = gc g n := by
  induction n with
  | zero => rfl
  | succ n ih =>
    have h1 := ih (fun i hi => h i (by omega))
    have h2 := h n (by omega)
    simp only [gc, h1, h2]
theorem gc_out {f : Nat → Bool} {n : Nat} (h : ∀ i, n ≤ i → f i = false) : ∀ k, n ≤ k → gc f k = gc f n := by
  intro k
  induction k with
  | zero => intro hk; have : n = 0 := by omega
            subst this; rfl
  | succ k ih =>
    intro hk
    by_cases e : n = k + 1
    · subst e; rfl
    · have h1 := ih (by omega)
      have h2 := h k (by omega)
      simp only [gc, h2]
      simpa using h1
theorem gM_ext {f g : Nat → Bool} {n : Nat} (h : ∀ i, i < n → f i = g i) : gM f n = gM g n := by
  induction n with
  | zero => rfl
  | succ n ih =>
    have h1 := ih (fun i hi => h i (by omega))
    have h2 := h n (by omega)
    simp only [gM, h1, h2]
theorem gM_out {f : Nat → Bool} {n : Nat} (h : ∀ i, n ≤ i → f i = false) : ∀ k, n ≤ k → gM f k = gM f n := by
  intro k
  induction k with
  | zero => intro hk; have : n = 0 := by omega
            subst this; rfl
  | succ k ih =>
    intro hk
    by_cases e : n = k + 1
    · subst e; rfl
    · have h1 := ih (by omega)
      have h2 := h k (by omega)
      simp only [gM, h2]
      simpa using h1
theorem gM_in (f : Nat → Bool) {n i : Nat} (h : i < n) : (gM f n).testBit i = f i := by rw [gM_bit]; simp [h]
theorem gM_no (f : Nat → Bool) {n i : Nat} (h : n ≤ i) : (gM f n).testBit i = false := by rw [gM_bit]; simp; intro; omega
theorem gc_M (f : Nat → Bool) {n a : Nat} (h : a ≤ n) : gc (fun i => (gM f n).testBit i) a = gc f a := gc_ext (fun i hi => gM_in f (by omega))
theorem gc_M7 (f : Nat → Bool) {n : Nat} (h : n ≤ 7) : gc (fun i => (gM f n).testBit i) 7 = gc f n := by
  rw [gc_out (fun i hi => gM_no f hi) 7 h]
  exact gc_M f (Nat.le_refl _)
theorem spr_M (f : Nat → Bool) {n : Nat} (h : n ≤ 7) (set : Nat) : spr (fun i => (gM f n).testBit i) 7 set = spr f n set := by
  unfold spr
  rw [gM_out (n := n) (fun i hi => by show ((gM f n).testBit i && _) = false; rw [gM_no f hi]; rfl) 7 h]
  apply gM_ext
  intro i hi
  show ((gM f n).testBit i && _) = _
  rw [gM_in f hi, gc_M f (by omega)]
theorem gM_128 (f : Nat → Bool) {n : Nat} (h : n ≤ 7) : gM f n < 128 := by
  have := gM_lt f n
  have := p27 h
  omega
theorem subs_spr (f : Nat → Bool) {n : Nat} (h : n ≤ 7) : (List.range (2 ^ gc f n)).map (spr f n) = subs (gM f n) := by
  have h1 := subs_all ⟨gM f n, gM_128 f h⟩
  simp only [] at h1
  rw [gc_M7 f h] at h1
  rw [← h1]
  apply List.map_congr_left
  intro s _
  exact (spr_M f h s).symm
theorem spr_pc (f : Nat → Bool) {n : Nat} (h : n ≤ 7) {s : Nat} (hs : s < 2 ^ gc f n) : pc (spr f n s) = pc s := by
  have hp := p27 (Nat.le_trans (gc_le f n) h)
  have h1 := spr_pc_all ⟨gM f n, gM_128 f h⟩ ⟨s, by omega⟩
  simp only [] at h1
  rw [gc_M7 f h, spr_M f h] at h1
  exact h1 hs
theorem foldl_filter' {α : Type} (p : Nat → Bool) (g : α → Nat → α) (z : α) (L : List Nat) : (L.filter p).foldl g z = L.foldl (fun x s => if p s then g x s else x) z := by
  induction L generalizing z with
  | nil => rfl
  | cons a t ih =>
    by_cases hp : p a = true
    · simp only [List.filter_cons, hp, if_true, List.foldl_cons]; exact ih _
    · rw [List.filter_cons, if_neg hp]
      simp only [List.foldl_cons, if_neg hp]
      exact ih _
/-- a walk over sets of speakers is one over all sets that leaves out the others -/
theorem set_fold {α : Type} (f : Nat → Bool) {n : Nat} (h : n ≤ 7) (G : α → Nat → α) (z : α) : fI (fun x s => G x (spr f n s)) z (2 ^ gc f n) = fI (fun x s => if s &&& gM f n == s then G x s else x) z 128 := by
  rw [fI_foldl, fI_foldl, ← foldl_filter']
  show _ = List.foldl G z (subs (gM f n))
  rw [← subs_spr f h, List.foldl_map]
theorem spr_bit (f : Nat → Bool) {n a : Nat} (set : Nat) (ha : a < n) (hf : f a = true) : (spr f n set).testBit a = set.testBit (gc f a) := by
  unfold spr; rw [gM_bit]; simp [ha, hf]
/-- a search for the i-th -/
def srch (ok : Nat → Bool) (val : Nat → Int32) (i : Int32) : Nat → Nat → Nat → Int32
  | fd, _, 0 => if i = -1 then nI fd else -1
  | fd, s, w + 1 => if ok s then (if nI fd = i then val s else srch ok val i (fd + 1) (s + 1) w) else srch ok val i fd (s + 1) w
def srchL (i : Int32) : Nat → List Int32 → Int32
  | fd, [] => if i = -1 then nI fd else -1
  | fd, v :: t => if nI fd = i then v else srchL i (fd + 1) t
theorem srch_L (ok : Nat → Bool) (val : Nat → Int32) (i : Int32) : ∀ (w fd s : Nat), srch ok val i fd s w = srchL i fd (((List.range' s w).filter ok).map val) := by
  intro w
  induction w with
  | zero => intro fd s; rfl
  | succ w ih =>
    intro fd s
    simp only [srch, List.range'_succ]
    by_cases h : ok s = true
    · rw [if_pos h, List.filter_cons, if_pos h, List.map_cons]
      simp only [srchL]
      rw [ih]
    · rw [if_neg h, List.filter_cons, if_neg h]
      exact ih fd (s + 1)
theorem srch_ext {ok ok' : Nat → Bool} {val val' : Nat → Int32} {i : Int32} : ∀ (w fd s : Nat), (∀ k, s ≤ k → k < s + w → ok k = ok' k ∧ (ok' k = true → val k = val' k)) → srch ok val i fd s w = srch ok' val' i fd s w := by
  intro w
  induction w with
  | zero => intro fd s _; rfl
  | succ w ih =>
    intro fd s h
    simp only [srch]
    have h1 := h s (Nat.le_refl _) (by omega)
    rw [h1.1, ih (fd + 1) (s + 1) (fun k a b => h k (by omega) (by omega)), ih fd (s + 1) (fun k a b => h k (by omega) (by omega))]
    by_cases hk : ok' s = true
    · rw [if_pos hk, if_pos hk, h1.2 hk]
    · rw [if_neg hk, if_neg hk]
theorem set_srch (f : Nat → Bool) {n : Nat} (h : n ≤ 7) (ok : Nat → Bool) (i : Int32) : srch (fun s => ok (spr f n s)) (fun s => nI (spr f n s)) i 0 0 (2 ^ gc f n) = srch (fun s => (s &&& gM f n == s) && ok s) (fun s => nI s) i 0 0 128 := by
  rw [srch_L, srch_L]
  congr 1
  rw [← List.range_eq_range', ← List.range_eq_range']
  have e1 : (List.range (2 ^ gc f n)).filter (fun s => ok (spr f n s)) = (List.range (2 ^ gc f n)).filter (ok ∘ spr f n) := rfl
  rw [e1]
  have e2 : List.map (fun s => nI (spr f n s)) ((List.range (2 ^ gc f n)).filter (ok ∘ spr f n)) = List.map (fun s => nI s) (((List.range (2 ^ gc f n)).map (spr f n)).filter ok) := by
    rw [List.filter_map, List.map_map]; rfl
  rw [e2, subs_spr f h]
  unfold subs
  rw [List.filter_filter]
  congr 1
  apply List.filter_congr
  intro x _
  rw [Bool.and_comm]
/-- to whom it falls, by voices -/
def pN (v : Nat → Int32) : Nat := (v 4).toNatClampNeg
def pOk (v : Nat → Int32) : Prop := v 4 = nI (pN v) ∧ pN v < 3
def vSu (B : gm_I) (nj : Nat) (f : Nat → Bool) (nm : Nat) (v : Nat → Nat → Int32) (J s : Nat) : Nat := gN f (fun a => pN (v a)) (fun a => vS B nj (v a) J) s nm
def vNu (f : Nat → Bool) (nm : Nat) (v : Nat → Nat → Int32) (s : Nat) : Nat := gN f (fun a => pN (v a)) (fun _ => 1) s nm
def vFall (B : gm_I) (nj : Nat) (f : Nat → Bool) (nm : Nat) (v : Nat → Nat → Int32) : Option Nat := gw (vSu B nj f nm v 255) (vNu f nm v) 3
theorem vSu_ext {B : gm_I} {nj : Nat} {f g : Nat → Bool} {nm : Nat} {v w : Nat → Nat → Int32} (h0 : ∀ a, a < nm → f a = g a) (h : ∀ a, a < nm → g a = true → vEq (v a) (w a)) (J s : Nat) : vSu B nj f nm v J s = vSu B nj g nm w J s := by
  unfold vSu
  apply gN_ext h0
  intro a ha hg
  have := h a ha hg
  refine ⟨?_, vS_eq this nj J⟩
  unfold pN; rw [this 4 (by decide) (by decide)]
theorem vNu_ext {f g : Nat → Bool} {nm : Nat} {v w : Nat → Nat → Int32} (h0 : ∀ a, a < nm → f a = g a) (h : ∀ a, a < nm → g a = true → vEq (v a) (w a)) (s : Nat) : vNu f nm v s = vNu g nm w s := by
  unfold vNu
  apply gN_ext h0
  intro a ha hg
  have := h a ha hg
  refine ⟨?_, rfl⟩
  unfold pN; rw [this 4 (by decide) (by decide)]
theorem vFall_ext {B : gm_I} {nj : Nat} {f g : Nat → Bool} {nm : Nat} {v w : Nat → Nat → Int32} (h0 : ∀ a, a < nm → f a = g a) (h : ∀ a, a < nm → g a = true → vEq (v a) (w a)) : vFall B nj f nm v = vFall B nj g nm w := by
  unfold vFall
  exact gw_ext (fun s _ => ⟨vSu_ext h0 h 255 s, vNu_ext h0 h s⟩)
theorem ent_gL {B : gm_I} {nj : Nat} (hnj : nj ≤ 8) {f : Nat → Bool} {nm : Nat} {v : Nat → Nat → Int32} (hp : ∀ a, a < nm → f a = true → pOk (v a)) : gL f (fun a => ent B nj (v a)) nm = bag (vSu B nj f nm v 255) (vNu f nm v) := by
  have : gL f (fun a => ent B nj (v a)) nm = gL f (fun a => sPart (nI (pN (v a))) (nI (vS B nj (v a) 255))) nm := by
    apply gL_ext (fun _ _ => rfl)
    intro a ha hf
    unfold ent
    rw [(hp a ha hf).1]
  rw [this]
  exact gL_bag f _ _ nm (fun a ha hf => ⟨(hp a ha hf).2, by have := vS_le B nj (v a) 255 hnj; omega⟩)
theorem vLanes {B : gm_I} {nj : Nat} (hnj : nj ≤ 8) (f : Nat → Bool) {nm : Nat} (hm : nm ≤ 7) (v : Nat → Nat → Int32) : lanes (vSu B nj f nm v 255) (vNu f nm v) :=
  lanes_gN f _ _ nm hm (fun a _ => vS_le B nj (v a) 255 hnj)
theorem wins_of {B : gm_I} {nj : Nat} (hnj : nj ≤ 8) {f : Nat → Bool} {nm : Nat} (hm : nm ≤ 7) {v0 v1 : Nat → Nat → Int32} {us tu : Nat → Int64} (h0 : dE f nm (fun b => ent B nj (v0 b)) us) (h1 : dE f nm (fun b => ent B nj (v1 b)) tu) (hp0 : ∀ a, a < nm → f a = true → pOk (v0 a)) (hp1 : ∀ a, a < nm → f a = true → pOk (v1 a)) (k : Nat) : wins (dBag us tu (gc f nm)) (fun s => vFall B nj f nm (fun a => if s.testBit (gc f a) then v1 a else v0 a)) k := by
  intro s _
  refine ⟨vSu B nj f nm (fun a => if s.testBit (gc f a) then v1 a else v0 a) 255, vNu f nm (fun a => if s.testBit (gc f a) then v1 a else v0 a), ?_, vLanes hnj f hm _, rfl⟩
  rw [← ent_gL hnj]
  · unfold dBag
    rw [← sL_wh]
    apply sL_ext
    intro i hi
    obtain ⟨h2, h3, h4⟩ := wh_ok f hi
    simp only [h4]
    by_cases hb : s.testBit i = true
    · simp only [hb, if_true]; exact h1 i hi
    · simp only [hb]; exact h0 i hi
  · intro a ha hf
    by_cases hb : s.testBit (gc f a) = true
    · simp only [hb, if_true]; exact hp1 a ha hf
    · simp only [hb]; exact hp0 a ha hf
