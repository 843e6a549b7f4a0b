/-! the class: whom to change over, who had better mumble -/
def allR (p : Nat → Bool) : Nat → Nat → Bool
  | _, 0 => true
  | s, w + 1 => p s && allR p (s + 1) w
theorem allR_iff (p : Nat → Bool) : ∀ (w s : Nat), allR p s w = true ↔ ∀ k, s ≤ k → k < s + w → p k = true := by
  intro w
  induction w with
  | zero => intro s; simp only [allR, true_iff]; intro k h1 h2; omega
  | succ w ih =>
    intro s
    simp only [allR, Bool.and_eq_true, ih]
    constructor
    · intro ⟨h1, h2⟩ k h3 h4
      by_cases e : k = s
      · subst e; exact h1
      · exact h2 k (by omega) (by omega)
    · intro h
      exact ⟨h s (Nat.le_refl _) (by omega), fun k h1 h2 => h k (by omega) (by omega)⟩
theorem b32_t : b32 true = 1 := rfl
theorem b32_f : b32 false = 0 := rfl
theorem nb_b32 (b : Bool) : narrow .boolean (.int (b32 b)) = .int (b32 b) := by cases b <;> rfl
def swB (B : gm_I) (a : Nat) : Bool := !decide (B 22 (10 * a + 1) = -2)
theorem sw_if (B : gm_I) (a : Nat) : (if B 22 (10 * a + 1) = -2 then (0 : Int32) else 1) = b32 (swB B a) := by
  unfold swB
  by_cases h : B 22 (10 * a + 1) = -2 <;> simp [h, b32]
def mayP (B : gm_I) (f : Nat → Bool) (nm set i : Nat) : Bool := !(set.testBit i && swB B (wh f nm i))
theorem C_may_loop {B im : gm_I} {f : Nat → Bool} {nm : Nat} (hm : nm ≤ 7) (ho : Off B im) (lm : gm_L) (h4 : im 71 4 = nI (gc f nm)) (h72 : ∀ i, i < gc f nm → im 72 i = nI (wh f nm i)) (set : Nat) (hset : set < 256) : ∀ (w i : Nat), i + w = gc f nm → gm_den 13 2 [.ref 71, .int (nI set), .int (nI i)] [] 128 gm_RF im lm = some (some (.int (b32 (allR (mayP B f nm set) i w))), 128, gm_RF, im, lm) := by
  have hle := gc_le f nm
  intro w
  induction w with
  | zero =>
    intro i hw
    have : i = gc f nm := by omega
    subst this
    rw [LX0_maySwear_2]
    simp only [QX0_maySwear, h4, nI_le (Nat.le_refl (gc f nm)) (show gc f nm < 2 ^ 31 by omega), if_true]
    rfl
  | succ w ih =>
    intro i hw
    have ih1 := ih (i + 1) (by omega)
    have hlt : ¬ nI (gc f nm) ≤ nI i := nI_ge (by omega) (by omega)
    have hw1 := (wh_ok f (show i < gc f nm by omega)).1
    have hs := C_isSworn (wh f nm i) im lm (by omega)
    rw [ho.1 22 rfl, sw_if] at hs
    rw [LX0_maySwear_2]
    simp only [allR, mayP]
    by_cases hb : set.testBit i = true
    · by_cases hsw : swB B (wh f nm i) = true
      · simp (decide := true) only [QX0_maySwear, h4, hlt, if_true, if_false, bitn hset (show i < 8 by omega), hb, b32_t, i7 i (show i < 7 by omega), h72 i (by omega), hs, hsw, gm_cont_i]
        rfl
      · simp only [Bool.not_eq_true] at hsw
        simp (decide := true) only [QX0_maySwear, h4, hlt, if_true, if_false, bitn hset (show i < 8 by omega), hb, b32_t, b32_f, i7 i (show i < 7 by omega), h72 i (by omega), hs, hsw, gm_cont_i, nI_a1, ih1]
        simp
    · simp only [Bool.not_eq_true] at hb
      simp (decide := true) only [QX0_maySwear, h4, hlt, if_true, if_false, bitn hset (show i < 8 by omega), hb, b32_f, nI_a1, ih1]
      simp
theorem C_maySwear {B im : gm_I} {f : Nat → Bool} {nm : Nat} (hm : nm ≤ 7) (ho : Off B im) (lm : gm_L) (h4 : im 71 4 = nI (gc f nm)) (h72 : ∀ i, i < gc f nm → im 72 i = nI (wh f nm i)) (set : Nat) (hset : set < 256) : gm_den 13 0 [.ref 71, .int (nI set), .null] [] 128 gm_RF im lm = some (some (.int (b32 (allR (mayP B f nm set) 0 (gc f nm)))), 128, gm_RF, im, lm) := by
  have h1 := C_may_loop hm ho lm h4 h72 set hset (gc f nm) 0 (by omega)
  have n1 : Value.category .null = 1 := rfl
  simp only [QX0_maySwear, gm_cat_i, n1]
  exact h1
theorem eO_n : eO none = -2 := rfl
theorem eO_s (s : Nat) : eO (some s) = nI s := rfl
/-- the first of the fewest -/
def chgF (side : Int32) (fl : Nat → Option Nat) (ok : Nat → Bool) (x : Option Nat) (s : Nat) : Option Nat := match x with
  | none => if eO (fl s) = side ∧ ok s = true then some s else none
  | some b => if (eO (fl s) = side ∧ ok s = true) ∧ pc s < pc b then some s else some b
theorem chgF_lt {side : Int32} {fl : Nat → Option Nat} {ok : Nat → Bool} {n b : Nat} (h : fI (chgF side fl ok) none n = some b) : b < n := by
  induction n generalizing b with
  | zero => cases h
  | succ n ih =>
    simp only [fI] at h
    cases hg : fI (chgF side fl ok) none n with
    | none => rw [hg] at h; simp only [chgF] at h; split at h <;> cases h; omega
    | some c => rw [hg] at h; simp only [chgF] at h; have := ih hg; split at h <;> cases h <;> omega
theorem pc_le : ∀ M : Fin 256, pc M.val ≤ 8 := by decide +kernel
theorem C_who_loop {B im : gm_I} {f : Nat → Bool} {nm : Nat} (hm : nm ≤ 7) (ho : Off B im) (lm : gm_L) (h4 : im 71 4 = nI (gc f nm)) (h72 : ∀ i, i < gc f nm → im 72 i = nI (wh f nm i)) (side : Int32) (fl : Nat → Option Nat) (hfl : wins (lm 75) fl (2 ^ gc f nm)) : ∀ (w s : Nat), s + w = 2 ^ gc f nm → gm_den 12 13 [.ref 71, .int side, .int (eO (fI (chgF side fl (fun s => allR (mayP B f nm s) 0 (gc f nm))) none s)), .int (nI s)] [] 128 gm_RF im lm = gm_den 12 69 [.ref 71, .int side, .int (eO (fI (chgF side fl (fun s => allR (mayP B f nm s) 0 (gc f nm))) none (2 ^ gc f nm))), .int (nI (2 ^ gc f nm))] [] 128 gm_RF im lm := by
  have hle := gc_le f nm
  have hp := p27 (show gc f nm ≤ 7 by omega)
  intro w
  induction w with
  | zero =>
    intro s hw
    have : s = 2 ^ gc f nm := by omega
    subst this
    rw [LX0_whoChanges_13]
    simp only [QX0_whoChanges, h4, pow2 (show gc f nm < 9 by omega), nI_le (Nat.le_refl (2 ^ gc f nm)) (show 2 ^ gc f nm < 2 ^ 31 by omega), if_true]
  | succ w ih =>
    intro s hw
    have ih1 := ih (s + 1) (by omega)
    have hs : s < 2 ^ gc f nm := by omega
    have hlt : ¬ nI (2 ^ gc f nm) ≤ nI s := nI_ge (by omega) (by omega)
    have hwin := C_win hfl hs im lm .null
    have hmay := C_maySwear hm ho lm h4 h72 s (by omega)
    rw [LX0_whoChanges_13]
    generalize gm_den 12 69 [.ref 71, .int side, .int (eO (fI (chgF side fl (fun s => allR (mayP B f nm s) 0 (gc f nm))) none (2 ^ gc f nm))), .int (nI (2 ^ gc f nm))] [] 128 gm_RF im lm = z at *
    have e : fI (chgF side fl (fun s => allR (mayP B f nm s) 0 (gc f nm))) none (s + 1) = chgF side fl (fun s => allR (mayP B f nm s) 0 (gc f nm)) (fI (chgF side fl (fun s => allR (mayP B f nm s) 0 (gc f nm))) none s) s := rfl
    rw [e] at ih1
    generalize hx : fI (chgF side fl (fun s => allR (mayP B f nm s) 0 (gc f nm))) none s = x at *
    generalize hok : allR (mayP B f nm s) 0 (gc f nm) = ok at *
    by_cases c1 : eO (fl s) = side
    · cases ok with
      | false =>
        have : chgF side fl (fun s => allR (mayP B f nm s) 0 (gc f nm)) x s = x := by
          cases x <;> simp [chgF, hok]
        rw [this] at ih1
        simp (decide := true) only [QX0_whoChanges, h4, pow2 (show gc f nm < 9 by omega), hlt, if_true, if_false, i128 s (show s < 128 by omega), hwin, gm_cont_i, c1, hmay, b32_f, nI_a1]
        exact ih1
      | true =>
        cases x with
        | none =>
          have : chgF side fl (fun s => allR (mayP B f nm s) 0 (gc f nm)) none s = some s := by simp [chgF, hok, c1]
          rw [this] at ih1
          simp (decide := true) only [QX0_whoChanges, h4, pow2 (show gc f nm < 9 by omega), hlt, if_true, if_false, i128 s (show s < 128 by omega), hwin, gm_cont_i, c1, hmay, b32_t, nI_a1, eO_n]
          exact ih1
        | some b =>
          have hb : b < s := chgF_lt hx
          have hbn : ¬ nI b = -2 := by
            intro hh
            have := congrArg Int32.toInt hh
            rw [nI_toInt (by omega)] at this
            simp at this
          have q1 := pc_le ⟨s, by omega⟩
          have q2 := pc_le ⟨b, by omega⟩
          simp only [] at q1 q2
          by_cases c2 : pc s < pc b
          · have : chgF side fl (fun s => allR (mayP B f nm s) 0 (gc f nm)) (some b) s = some s := by simp [chgF, hok, c1, c2]
            rw [this] at ih1
            have hx : ¬ nI (pc b) ≤ nI (pc s) := nI_ge c2 (by omega)
            simp (decide := true) only [QX0_whoChanges, h4, pow2 (show gc f nm < 9 by omega), hlt, if_true, if_false, i128 s (show s < 128 by omega), hwin, gm_cont_i, c1, hmay, b32_t, nI_a1, eO_s, hbn, J_bitCount (show s < 256 by omega), J_bitCount (show b < 256 by omega), hx]
            exact ih1
          · have : chgF side fl (fun s => allR (mayP B f nm s) 0 (gc f nm)) (some b) s = some b := by simp [chgF, hok, c1, c2]
            rw [this] at ih1
            have hx : nI (pc b) ≤ nI (pc s) := nI_le (by omega) (by omega)
            simp (decide := true) only [QX0_whoChanges, h4, pow2 (show gc f nm < 9 by omega), hlt, if_true, if_false, i128 s (show s < 128 by omega), hwin, gm_cont_i, c1, hmay, b32_t, nI_a1, eO_s, hbn, J_bitCount (show s < 256 by omega), J_bitCount (show b < 256 by omega), hx]
            exact ih1
    · have : chgF side fl (fun s => allR (mayP B f nm s) 0 (gc f nm)) x s = x := by
        cases x <;> simp [chgF, c1]
      rw [this] at ih1
      simp (decide := true) only [QX0_whoChanges, h4, pow2 (show gc f nm < 9 by omega), hlt, if_true, if_false, i128 s (show s < 128 by omega), hwin, gm_cont_i, c1, nI_a1]
      exact ih1
def eS (f : Nat → Bool) (nm : Nat) : Option Nat → Int32
  | none => -2
  | some s => nI (spr f nm s)
theorem C_whoChanges {B im : gm_I} {l nm nk nj ns : Nat} (hR : iRoll B l nm nk nj ns) (ho : Off B im) {m da : Int32} (hd : dW (cSpk B m) nm da im) (lm : gm_L) (v0 : Nat → Nat → Int32) (he : dE (cSpk B m) nm (fun b => ent B nj (v0 b)) (lm 73)) (hp0 : ∀ a, a < nm → cSpk B m a = true → pOk (v0 a)) (hp1 : ∀ a, a < nm → cSpk B m a = true → pOk (upd (upd (upd (cV B a) 8 da) 4 (B 22 (10 * a + 0))) 9 1)) (side : Int32) : ∃ im' lm', gm_den 12 0 [.ref 71, .int side, .null, .null] [] 128 gm_RF im lm = some (some (.int (eS (cSpk B m) nm (fI (chgF side (fun s => vFall B nj (cSpk B m) nm (fun a => if s.testBit (gc (cSpk B m) a) then upd (upd (upd (cV B a) 8 da) 4 (B 22 (10 * a + 0))) 9 1 else v0 a)) (fun s => allR (mayP B (cSpk B m) nm s) 0 (gc (cSpk B m) nm))) none (2 ^ gc (cSpk B m) nm)))), 128, gm_RF, im', lm') ∧ Off B im' ∧ Fr [74, 75] lm lm' := by
  have hm7 := iR_nm hR
  have hle := gc_le (cSpk B m) nm
  obtain ⟨im1, lm1, h1, h2, h3, h4, h5, h6⟩ := C_turnByOath hR ho hd lm
  obtain ⟨lm2, h7, h8, h9⟩ := C_fillBags im1 lm1 (gc (cSpk B m) nm) h3.1 (by omega)
  have he1 : dE (cSpk B m) nm (fun b => ent B nj (v0 b)) (lm1 73) := by rw [h5 73 (by decide)]; exact he
  have hw := wins_of (iR_nj hR) hm7 he1 h4 hp0 hp1 (2 ^ gc (cSpk B m) nm)
  have hw2 : wins (lm2 75) (fun s => vFall B nj (cSpk B m) nm (fun a => if s.testBit (gc (cSpk B m) a) then upd (upd (upd (cV B a) 8 da) 4 (B 22 (10 * a + 0))) 9 1 else v0 a)) (2 ^ gc (cSpk B m) nm) := fun s hs => by rw [h8 s hs]; exact hw s hs
  have hl := C_who_loop hm7 h2 lm2 h3.1 h3.2.2 side _ hw2 (2 ^ gc (cSpk B m) nm) 0 (by omega)
  refine ⟨im1, lm2, ?_, h2, (h5.mo (by decide)).tr (h9.mo (by decide))⟩
  have e0 : gm_den 12 0 [.ref 71, .int side, .null, .null] [] 128 gm_RF im lm = gm_den 12 13 [.ref 71, .int side, .int (-2), .int (nI 0)] [] 128 gm_RF im1 lm2 := by
    simp only [QX0_whoChanges, h1, h7, gm_cont_v, gm_cat_i, show Value.category .null = 1 from rfl]
    rfl
  rw [e0]
  refine Eq.trans hl ?_
  generalize hx : fI (chgF side _ _) none (2 ^ gc (cSpk B m) nm) = x
  cases x with
  | none => simp (decide := true) only [QX0_whoChanges, eO, eS, if_true, if_false]
  | some b =>
    have hb := chgF_lt hx
    have hp := p27 (show gc (cSpk B m) nm ≤ 7 by omega)
    have hbn : ¬ nI b = -2 := by
      intro hh
      have := congrArg Int32.toInt hh
      rw [nI_toInt (by omega)] at this
      simp at this
    simp only [QX0_whoChanges, eO, eS, hbn, if_true, not_false_eq_true, C_menOf hm7 im1 lm2 h3.1 h3.2.2 b (by omega), gm_cont_i]
