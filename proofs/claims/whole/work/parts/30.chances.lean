/-! the class: sets of men, weights, chances -/
theorem or0 : ∀ a : Fin 8, (0 : Int32) <<< (nI a.val &&& 31) = 0 := by decide
theorem bsel {X a : Nat} (ha : a < 8) (hX : X < 2 ^ a) (b : Bool) : nI X ||| (b32 b <<< (nI a &&& 31)) = nI (if b then X + 2 ^ a else X) := by
  cases b with
  | true => exact bs ha hX
  | false =>
    show nI X ||| ((0 : Int32) <<< (nI a &&& 31)) = nI X
    rw [or0 ⟨a, ha⟩, Int32.or_zero]
/-- the men of a set of speakers -/
def spr (f : Nat → Bool) (n set : Nat) : Nat := gM (fun a => f a && set.testBit (gc f a)) n
theorem spr_I (f : Nat → Bool) (n set : Nat) : fI (fun x i => if set.testBit i then x + 2 ^ wh f n i else x) 0 (gc f n) = spr f n set := by
  rw [fI_wh f (fun x a i => if set.testBit i then x + 2 ^ a else x)]
  exact gM_fA f (fun a => set.testBit (gc f a)) n
theorem spr_lt (f : Nat → Bool) {n i : Nat} (set : Nat) (hi : i < gc f n) : fI (fun x i => if set.testBit i then x + 2 ^ wh f n i else x) 0 i < 2 ^ wh f n i := by
  obtain ⟨h1, h2, h3⟩ := wh_ok f hi
  have e : fI (fun x k => if set.testBit k then x + 2 ^ wh f n k else x) 0 i = spr f (wh f n i) set := by
    rw [← spr_I, h3]
    apply fI_ext
    intro x k hk
    have : wh f n k = wh f (wh f n i) k := by
      have hk1 : k < gc f (wh f n i) := by omega
      obtain ⟨g1, g2, g3⟩ := wh_ok f hk1
      have := wh_gc f (n := n) (show wh f (wh f n i) k < n by omega) g2
      rw [g3] at this
      exact this
    rw [this]
  rw [e]
  exact gM_lt _ _
theorem C_menOf_loop {f : Nat → Bool} {n : Nat} (hn7 : n ≤ 7) (im : gm_I) (lm : gm_L) (h4 : im 71 4 = nI (gc f n)) (h72 : ∀ i, i < gc f n → im 72 i = nI (wh f n i)) (set : Nat) (hset : set < 256) : ∀ (w i : Nat), i + w = gc f n → gm_den 8 4 [.ref 71, .int (nI set), .int (nI (fI (fun x i => if set.testBit i then x + 2 ^ wh f n i else x) 0 i)), .int (nI i)] [] 128 gm_RF im lm = some (some (.int (nI (spr f n set))), 128, gm_RF, im, lm) := by
  have hle := gc_le f n
  intro w
  induction w with
  | zero =>
    intro i hw
    have : i = gc f n := by omega
    subst this
    rw [LX0_menOf_4]
    simp only [QX0_menOf, h4, nI_le (Nat.le_refl (gc f n)) (show gc f n < 2 ^ 31 by omega), if_true, spr_I]
  | succ w ih =>
    intro i hw
    have ih1 := ih (i + 1) (by omega)
    have hlt : ¬ nI (gc f n) ≤ nI i := nI_ge (by omega) (by omega)
    have hw1 := (wh_ok f (show i < gc f n by omega)).1
    rw [LX0_menOf_4]
    simp only [QX0_menOf, h4, hlt, if_true, if_false, i7 i (show i < 7 by omega), h72 i (by omega), bitn hset (show i < 8 by omega), bsel (show wh f n i < 8 by omega) (spr_lt f set (show i < gc f n by omega)), nI_a1]
    exact ih1
theorem C_menOf {f : Nat → Bool} {n : Nat} (hn7 : n ≤ 7) (im : gm_I) (lm : gm_L) (h4 : im 71 4 = nI (gc f n)) (h72 : ∀ i, i < gc f n → im 72 i = nI (wh f n i)) (set : Nat) (hset : set < 256) : gm_den 8 0 [.ref 71, .int (nI set), .null, .null] [] 128 gm_RF im lm = some (some (.int (nI (spr f n set))), 128, gm_RF, im, lm) := by
  have h1 := C_menOf_loop hn7 im lm h4 h72 set hset (gc f n) 0 (by omega)
  simp only [QX0_menOf, gm_cat_i, gm_cat_n, gm_cat_r]
  exact h1
/-- how often of ten one slips -/
def slN (B : gm_I) (a : Nat) : Nat := (B 12 (4 * a + 2)).toNatClampNeg
theorem slN_ok {B : gm_I} {l nm nk nj ns : Nat} (hR : iRoll B l nm nk nj ns) {a : Nat} (ha : a < nm) : B 12 (4 * a + 2) = nI (slN B a) ∧ slN B a ≤ 10 := by
  obtain ⟨-, -, -, -, ⟨q, h1, h2⟩, -⟩ := iR_man hR ha
  have : slN B a = q := by unfold slN; rw [h2, nI_clamp (by omega)]
  rw [this]; exact ⟨h2, h1⟩
def wF (B : gm_I) (set : Nat) (x a i : Nat) : Nat := x * (if set.testBit i then slN B a else 10 - slN B a)
/-- the weight of a set of slips -/
def gW (B : gm_I) (f : Nat → Bool) (n set k : Nat) : Nat := fI (fun x i => wF B set x (wh f n i) i) 1 k
theorem gW_le {B : gm_I} {l nm nk nj ns : Nat} (hR : iRoll B l nm nk nj ns) (f : Nat → Bool) (set k : Nat) (hk : k ≤ gc f nm) : gW B f nm set k ≤ 10 ^ k := by
  induction k with
  | zero => exact Nat.le_refl _
  | succ k ih =>
    have h1 := ih (by omega)
    have h2 := (slN_ok hR (wh_ok f (show k < gc f nm by omega)).1).2
    show gW B f nm set k * _ ≤ 10 ^ k * 10
    apply Nat.mul_le_mul h1
    split <;> omega
theorem p107 {n : Nat} (h : n ≤ 7) : 10 ^ n ≤ 10 ^ 7 := Nat.pow_le_pow_right (n := 10) (by decide) h
theorem C_weigh_in {B : gm_I} {l nm nk nj ns : Nat} (hR : iRoll B l nm nk nj ns) (f : Nat → Bool) (im : gm_I) (lm : gm_L) (ho : Off B im) (h4 : im 71 4 = nI (gc f nm)) (h72 : ∀ i, i < gc f nm → im 72 i = nI (wh f nm i)) (set : Nat) (hset : set < 256) : ∀ (w i : Nat) (x4 : Value), i + w = gc f nm → x4.category = 1 → ∃ x4', x4'.category = 1 ∧ gm_den 9 16 [.ref 71, .int (nI set), .int (nI (gW B f nm set i)), .int (nI i), x4] [] 128 gm_RF im lm = gm_den 9 67 [.ref 71, .int (nI set), .int (nI (gW B f nm set (gc f nm))), .int (nI (gc f nm)), x4'] [] 128 gm_RF im lm := by
  have hle := gc_le f nm
  have hm7 := iR_nm hR
  intro w
  induction w with
  | zero =>
    intro i x4 hw c4
    have : i = gc f nm := by omega
    subst this
    refine ⟨x4, c4, ?_⟩
    rw [LX0_weigh_16]
    simp only [QX0_weigh, h4, nI_le (Nat.le_refl (gc f nm)) (show gc f nm < 2 ^ 31 by omega), if_true]
  | succ w ih =>
    intro i x4 hw c4
    obtain ⟨hw1, -, -⟩ := wh_ok f (show i < gc f nm by omega)
    obtain ⟨hs1, hs2⟩ := slN_ok hR hw1
    obtain ⟨x4', c4', ih1⟩ := ih (i + 1) (.int (nI (slN B (wh f nm i)))) (by omega) rfl
    refine ⟨x4', c4', ?_⟩
    have hlt : ¬ nI (gc f nm) ≤ nI i := nI_ge (by omega) (by omega)
    have hsl := C_slipOf (wh f nm i) im lm (by omega)
    rw [ho.1 12 rfl, hs1] at hsl
    rw [LX0_weigh_16]
    generalize gm_den 9 67 [.ref 71, .int (nI set), .int (nI (gW B f nm set (gc f nm))), .int (nI (gc f nm)), x4'] [] 128 gm_RF im lm = z at *
    by_cases hb : set.testBit i = true
    · have e : gW B f nm set (i + 1) = gW B f nm set i * slN B (wh f nm i) := by
        show wF B set _ _ _ = _; unfold wF; rw [if_pos hb]; rfl
      rw [e] at ih1
      simp (decide := true) only [QX0_weigh, h4, hlt, if_true, if_false, i7 i (show i < 7 by omega), h72 i (by omega), hsl, gm_cont_i, gm_cat_i, bitn hset (show i < 8 by omega), hb, b32, c4, nI_mul, nI_a1]
      exact ih1
    · have e : gW B f nm set (i + 1) = gW B f nm set i * (10 - slN B (wh f nm i)) := by
        show wF B set _ _ _ = _; unfold wF; rw [if_neg hb]; rfl
      rw [e] at ih1
      have e10 : (10 : Int32) - nI (slN B (wh f nm i)) = nI (10 - slN B (wh f nm i)) := nI_sub (a := 10) hs2
      simp (decide := true) only [QX0_weigh, h4, hlt, if_true, if_false, i7 i (show i < 7 by omega), h72 i (by omega), hsl, gm_cont_i, gm_cat_i, bitn hset (show i < 8 by omega), hb, b32, c4, e10, nI_mul, nI_a1]
      exact ih1
theorem C_weigh_loop {B : gm_I} {l nm nk nj ns : Nat} (hR : iRoll B l nm nk nj ns) (f : Nat → Bool) (lm : gm_L) : ∀ (w set : Nat) (im : gm_I) (x2 x3 x4 : Value), set + w = 2 ^ gc f nm → Off B im → im 71 4 = nI (gc f nm) → (∀ i, i < gc f nm → im 72 i = nI (wh f nm i)) → (∀ s, s < set → im 77 s = nI (gW B f nm s (gc f nm))) → x2.category = 1 → x3.category = 1 → x4.category = 1 → ∃ im', gm_den 9 2 [.ref 71, .int (nI set), x2, x3, x4] [] 128 gm_RF im lm = some (none, 128, gm_RF, im', lm) ∧ Off B im' ∧ (∀ s, s < 2 ^ gc f nm → im' 77 s = nI (gW B f nm s (gc f nm))) ∧ Fr [77] im im' := by
  have hle := gc_le f nm
  have hm7 := iR_nm hR
  have hp := p27 (show gc f nm ≤ 7 by omega)
  intro w
  induction w with
  | zero =>
    intro set im x2 x3 x4 hw ho h4 h72 hb c2 c3 c4
    have : set = 2 ^ gc f nm := by omega
    subst this
    refine ⟨im, ?_, ho, hb, Fr.rf _ _⟩
    rw [LX0_weigh_2]
    simp only [QX0_weigh, h4, pow2 (show gc f nm < 9 by omega), nI_le (Nat.le_refl (2 ^ gc f nm)) (show 2 ^ gc f nm < 2 ^ 31 by omega), if_true]
  | succ w ih =>
    intro set im x2 x3 x4 hw ho h4 h72 hb c2 c3 c4
    have hlt : ¬ nI (2 ^ gc f nm) ≤ nI set := nI_ge (by omega) (by omega)
    obtain ⟨x4', c4', hin⟩ := C_weigh_in hR f im lm ho h4 h72 set (by omega) (gc f nm) 0 x4 (by omega) c4
    obtain ⟨im', h5, h6, h7, h8⟩ := ih (set + 1) (gm_up im 77 set (nI (gW B f nm set (gc f nm)))) (.int (nI (gW B f nm set (gc f nm)))) (.int (nI (gc f nm))) x4' (by omega) (ho.up rfl (by decide)) (by rw [gu_ne (by decide)]; exact h4) (fun i hi => by rw [gu_ne (by decide)]; exact h72 i hi) (by
      intro s hs
      by_cases e : s = set
      · subst e; rw [gu_eq]
      · rw [gu_nk e]; exact hb s (by omega)) rfl rfl c4'
    refine ⟨im', ?_, h6, h7, Fr.tr ((Fr.rf _ im).up (by simp)) h8⟩
    rw [LX0_weigh_2]
    have e1 : gm_den 9 3 [.ref 71, .int (nI set), x2, x3, x4] [.int (nI set)] 128 gm_RF im lm = gm_den 9 16 [.ref 71, .int (nI set), .int (nI (gW B f nm set 0)), .int (nI 0), x4] [] 128 gm_RF im lm := by
      simp only [QX0_weigh, h4, pow2 (show gc f nm < 9 by omega), hlt, if_false, gm_cat_i, c2, c3, c4]
      rfl
    rw [e1, hin]
    simp only [QX0_weigh, i128 set (show set < 128 by omega), if_true, nI_a1, c4']
    exact h5
theorem C_weigh {B im : gm_I} {l nm nk nj ns : Nat} (hR : iRoll B l nm nk nj ns) (ho : Off B im) {m da : Int32} (hd : dW (cSpk B m) nm da im) (lm : gm_L) : ∃ im', gm_den 9 0 [.ref 71, .null, .null, .null, .null] [] 128 gm_RF im lm = some (none, 128, gm_RF, im', lm) ∧ Off B im' ∧ dW (cSpk B m) nm da im' ∧ (∀ s, s < 2 ^ gc (cSpk B m) nm → im' 77 s = nI (gW B (cSpk B m) nm s (gc (cSpk B m) nm))) ∧ Fr [77] im im' := by
  have n1 : Value.category .null = 1 := rfl
  obtain ⟨im', h1, h2, h3, h4⟩ := C_weigh_loop hR (cSpk B m) lm (2 ^ gc (cSpk B m) nm) 0 im .null .null .null (by omega) ho hd.1 hd.2.2 (fun s hs => by omega) rfl rfl rfl
  refine ⟨im', ?_, h2, ?_, h3, h4⟩
  · simp only [QX0_weigh, gm_cat_i, gm_cat_r, n1]
    exact h1
  · unfold dW; rw [h4 71 (by decide), h4 72 (by decide)]; exact hd
theorem C_all_loop (im : gm_I) (lm : gm_L) (n : Nat) (hn : im 71 4 = nI n) (h7 : n ≤ 7) : ∀ (w i : Nat), i + w = n → gm_den 10 4 [.ref 71, .int (nI (10 ^ i)), .int (nI i)] [] 128 gm_RF im lm = some (some (.int (nI (10 ^ n))), 128, gm_RF, im, lm) := by
  intro w
  induction w with
  | zero =>
    intro i hw
    have : i = n := by omega
    subst this
    rw [LX0_allChances_4]
    simp only [QX0_allChances, hn, nI_le (Nat.le_refl i) (show i < 2 ^ 31 by omega), if_true]
  | succ w ih =>
    intro i hw
    have ih1 := ih (i + 1) (by omega)
    have hlt : ¬ nI n ≤ nI i := nI_ge (by omega) (by omega)
    rw [LX0_allChances_4]
    have e10 : nI (10 ^ i) * (10 : Int32) = nI (10 ^ (i + 1)) := by
      rw [show (10 : Int32) = nI 10 from rfl, nI_mul, Nat.pow_succ]
    simp only [QX0_allChances, hn, hlt, if_false, e10, nI_a1]
    exact ih1
theorem C_allChances (im : gm_I) (lm : gm_L) (n : Nat) (hn : im 71 4 = nI n) (h7 : n ≤ 7) : gm_den 10 0 [.ref 71, .null, .null] [] 128 gm_RF im lm = some (some (.int (nI (10 ^ n))), 128, gm_RF, im, lm) := by
  have h1 := C_all_loop im lm n hn h7 n 0 (by omega)
  have n1 : Value.category .null = 1 := rfl
  simp only [QX0_allChances, gm_cat_i, gm_cat_r, n1]
  exact h1
/-- bags whose winners are known -/
def wins (r : Nat → Int64) (fl : Nat → Option Nat) (k : Nat) : Prop := ∀ s, s < k → ∃ S N, r s = bag S N ∧ lanes S N ∧ gw S N 3 = fl s
theorem C_win {r : Nat → Int64} {fl : Nat → Option Nat} {k s : Nat} (h : wins r fl k) (hs : s < k) (im : gm_I) (lm : gm_L) (x1 : Value) : gm_den 93 0 [.long (r s), x1] [] 128 gm_RF im lm = some (some (.int (eO (fl s))), 128, gm_RF, im, lm) := by
  obtain ⟨S, N, h1, h2, h3⟩ := h s hs
  rw [h1, C_winner h2, h3]
def chF (side : Int32) (wt : Nat → Nat) (fl : Nat → Option Nat) (x s : Nat) : Nat := if 0 < wt s ∧ eO (fl s) = side then x + wt s else x
theorem C_chance_loop (im : gm_I) (lm : gm_L) (n : Nat) (hn : im 71 4 = nI n) (h7 : n ≤ 7) (side : Int32) (wt : Nat → Nat) (hwt : ∀ s, s < 2 ^ n → im 77 s = nI (wt s) ∧ wt s < 2 ^ 31) (fl : Nat → Option Nat) (hfl : wins (lm 75) fl (2 ^ n)) : ∀ (w s : Nat), s + w = 2 ^ n → gm_den 11 8 [.ref 71, .int side, .int (nI (fI (chF side wt fl) 0 s)), .int (nI s)] [] 128 gm_RF im lm = some (some (.int (nI (fI (chF side wt fl) 0 (2 ^ n)))), 128, gm_RF, im, lm) := by
  have hp := p27 h7
  intro w
  induction w with
  | zero =>
    intro s hw
    have : s = 2 ^ n := by omega
    subst this
    rw [LX0_chanceOf_8]
    simp only [QX0_chanceOf, hn, pow2 (show n < 9 by omega), nI_le (Nat.le_refl (2 ^ n)) (show 2 ^ n < 2 ^ 31 by omega), if_true]
  | succ w ih =>
    intro s hw
    have ih1 := ih (s + 1) (by omega)
    have hs : s < 2 ^ n := by omega
    have hlt : ¬ nI (2 ^ n) ≤ nI s := nI_ge (by omega) (by omega)
    obtain ⟨h1, h2⟩ := hwt s hs
    have hwin := C_win hfl hs im lm .null
    rw [LX0_chanceOf_8]
    have e : fI (chF side wt fl) 0 (s + 1) = chF side wt fl (fI (chF side wt fl) 0 s) s := rfl
    rw [e] at ih1
    unfold chF at ih1 ⊢
    by_cases c1 : 0 < wt s
    · have hle : ¬ nI (wt s) ≤ 0 := nI_nle c1 h2
      by_cases c2 : eO (fl s) = side
      · rw [if_pos ⟨c1, c2⟩] at ih1
        simp only [QX0_chanceOf, hn, pow2 (show n < 9 by omega), hlt, if_true, if_false, i128 s (show s < 128 by omega), h1, hle, hwin, gm_cont_i, c2, not_true_eq_false, nI_add, nI_a1]
        exact ih1
      · rw [if_neg (fun hh => c2 hh.2)] at ih1
        simp only [QX0_chanceOf, hn, pow2 (show n < 9 by omega), hlt, if_true, if_false, i128 s (show s < 128 by omega), h1, hle, hwin, gm_cont_i, c2, not_false_eq_true, nI_a1]
        exact ih1
    · have h0 : wt s = 0 := by omega
      have hle : nI (wt s) ≤ 0 := by rw [h0]; decide
      rw [if_neg (fun hh => c1 hh.1)] at ih1
      simp only [QX0_chanceOf, hn, pow2 (show n < 9 by omega), hlt, if_true, if_false, i128 s (show s < 128 by omega), h1, hle, nI_a1]
      exact ih1
theorem C_chanceOf (im : gm_I) (lm : gm_L) (n : Nat) (hn : im 71 4 = nI n) (h7 : n ≤ 7) (side : Int32) (wt : Nat → Nat) (hwt : ∀ s, s < 2 ^ n → im 77 s = nI (wt s) ∧ wt s < 2 ^ 31) (fl : Nat → Option Nat) (hfl : wins (dBag (lm 73) (lm 74) n) fl (2 ^ n)) : ∃ lm', gm_den 11 0 [.ref 71, .int side, .null, .null] [] 128 gm_RF im lm = some (some (.int (nI (fI (chF side wt fl) 0 (2 ^ n)))), 128, gm_RF, im, lm') ∧ Fr [75] lm lm' := by
  obtain ⟨lm', h1, h2, h3⟩ := C_fillBags im lm n hn h7
  have hfl' : wins (lm' 75) fl (2 ^ n) := fun s hs => by rw [h2 s hs]; exact hfl s hs
  have h4 := C_chance_loop im lm' n hn h7 side wt hwt fl hfl' (2 ^ n) 0 (by omega)
  refine ⟨lm', ?_, h3⟩
  simp only [QX0_chanceOf, h1, gm_cont_v, gm_cat_i, gm_cat_n]
  exact h4
