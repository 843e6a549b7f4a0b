/-! questions: change -/
theorem clr_all : ∀ a : Fin 7, ∀ M : Fin 128, nI M.val &&& ((1 <<< (nI a.val &&& 31)) ^^^ -1) = nI (M.val &&& (127 - 2 ^ a.val)) := by decide +kernel
theorem clrn {a M : Nat} (ha : a < 7) (hM : M < 128) : nI M &&& ((1 <<< (nI a &&& 31)) ^^^ -1) = nI (M &&& (127 - 2 ^ a)) := clr_all ⟨a, ha⟩ ⟨M, hM⟩
theorem clrb_all : ∀ a : Fin 7, ∀ i : Fin 7, (127 - 2 ^ a.val).testBit i.val = (i.val != a.val) := by decide +kernel
/-- those who may be changed over -/
def canN (M : Nat) (sw : Nat → Bool) : Nat → Nat
  | 0 => M
  | a + 1 => if sw a then canN M sw a &&& (127 - 2 ^ a) else canN M sw a
theorem canN_lt {M : Nat} (hM : M < 128) (sw : Nat → Bool) (n : Nat) : canN M sw n < 128 := by
  induction n with
  | zero => exact hM
  | succ n ih =>
    simp only [canN]
    split
    · exact Nat.lt_of_le_of_lt Nat.and_le_left ih
    · exact ih
theorem canN_bit {M : Nat} (hM : M < 128) (sw : Nat → Bool) (n : Nat) (hn : n ≤ 7) (i : Nat) : (canN M sw n).testBit i = (M.testBit i && !(decide (i < n) && sw i)) := by
  induction n with
  | zero => simp [canN]
  | succ n ih =>
    have ih1 := ih (by omega)
    simp only [canN]
    by_cases hi : i < 7
    · by_cases hs : sw n = true
      · rw [if_pos hs, Nat.testBit_and, ih1, clrb_all ⟨n, by omega⟩ ⟨i, hi⟩]
        by_cases e : i = n
        · subst e; simp [hs]
        · have : decide (i < n + 1) = decide (i < n) := by
            by_cases h : i < n
            · simp [h, Nat.lt_succ_of_lt h]
            · simp [h, show ¬ i < n + 1 by omega]
          simp [e, this]
      · rw [if_neg hs, ih1]
        simp only [Bool.not_eq_true] at hs
        by_cases e : i = n
        · subst e; simp [hs]
        · have : decide (i < n + 1) = decide (i < n) := by
            by_cases h : i < n
            · simp [h, Nat.lt_succ_of_lt h]
            · simp [h, show ¬ i < n + 1 by omega]
          simp [this]
    · have hb : ∀ x, x < 128 → Nat.testBit x i = false := fun x hx => Nat.testBit_lt_two_pow (by
        have : 2 ^ 7 ≤ 2 ^ i := Nat.pow_le_pow_right (by decide) (by omega)
        omega)
      have h1 := canN_lt hM sw (n + 1)
      simp only [canN] at h1
      rw [hb _ h1, hb M hM]
      rfl
/-- speeches if he were changed over -/
def oaV (B : gm_I) (a : Nat) : Nat → Int32 := upd (upd (dV B (B 22 75) a) 4 (B 22 (10 * a + 0))) 9 1
def chV (B : gm_I) (t a : Nat) : Nat → Int32 := if t.testBit a then oaV B a else dV B (B 22 75) a
def chG (B : gm_I) (nj : Nat) (f : Nat → Bool) (nm : Nat) (side : Int32) (x : Option Nat) (t : Nat) : Option Nat := match x with
  | none => if eO (vFall B nj f nm (chV B t)) = side then some t else none
  | some b => if pc t < pc b then (if eO (vFall B nj f nm (chV B t)) = side then some t else some b) else some b
def chGo (side : Int32) (FL : Nat → Option Nat) (OK : Nat → Bool) (x : Option Nat) (t : Nat) : Option Nat := match x with
  | none => if eO (FL t) = side ∧ OK t = true then some t else none
  | some b => if (eO (FL t) = side ∧ OK t = true) ∧ pc t < pc b then some t else some b
theorem chgF_map {side : Int32} {fl : Nat → Option Nat} {ok : Nat → Bool} {f : Nat → Bool} {n : Nat} (hn : n ≤ 7) (FL : Nat → Option Nat) (OK : Nat → Bool) (h1 : ∀ s, s < 2 ^ gc f n → fl s = FL (spr f n s)) (h2 : ∀ s, s < 2 ^ gc f n → ok s = OK (spr f n s)) : ∀ k, k ≤ 2 ^ gc f n → (fI (chgF side fl ok) none k).map (spr f n) = fI (fun x s => chGo side FL OK x (spr f n s)) none k := by
  intro k
  induction k with
  | zero => intro _; rfl
  | succ k ih =>
    intro hk
    have ih1 := ih (by omega)
    simp only [fI]
    rw [← ih1]
    cases hg : fI (chgF side fl ok) none k with
    | none =>
      simp only [chgF, chGo, Option.map_none]
      rw [h1 k (by omega), h2 k (by omega)]
      split
      · rfl
      · rfl
    | some b =>
      have hb := chgF_lt hg
      simp only [chgF, chGo, Option.map_some]
      rw [h1 k (by omega), h2 k (by omega), spr_pc f hn (show k < 2 ^ gc f n by omega), spr_pc f hn (show b < 2 ^ gc f n by omega)]
      split
      · rfl
      · rfl
section
variable {B : gm_I} {l nm nk nj ns : Nat}
theorem M_swears {im : gm_I} {a : Nat} (ha : a < 7) (s : Int32) (lm : gm_L) : gm_den 236 0 [.ref 84, .int (nI a), .int s] [] 128 gm_RF im lm = some (none, 128, gm_RF, gm_up (gm_up im 117 (7 + a) (im 117 a)) 117 a s, lm) := by
  simp only [QX12_swears, ixr7 a ha, if_true]
/-- the row after some have sworn -/
def swR (B X : gm_I) (nm ns t a : Nat) : Prop := (∀ j, 14 ≤ j → j < 80 → X 117 j = B 116 j) ∧ ∀ b, b < nm → if b < a ∧ t.testBit b = true then (X 117 (7 + b) = B 116 b ∧ ∃ q, q < ns ∧ X 117 b = nI q) else (X 117 (7 + b) = B 116 (7 + b) ∧ X 117 b = B 116 b)
theorem M_sw_loop (hR : iRoll B l nm nk nj ns) (hr : rRel (B 22) (B 116) nm nk ns) (x1 x2 x3 x4 x5 : Int32) {t : Nat} (ht : t < 128) (lm : gm_L) : ∀ (w a : Nat) (im : gm_I), a + w = nm → Off B im → swR B im nm ns t a → ∃ im', Off B im' ∧ swR B im' nm ns t nm ∧ gm_den 247 130 [.ref 84, .int x1, .int x2, .int x3, .int x4, .int x5, .int (nI t), .int (nI a)] [] 128 gm_RF im lm = gm_den 247 186 [.ref 84, .int x1, .int x2, .int x3, .int x4, .int x5, .int (nI t), .int (nI nm)] [] 128 gm_RF im' lm := by
  have hm7 := iR_nm hR
  have hl2 := iR_l hR
  have hns := iR_ns hR
  intro w
  induction w with
  | zero =>
    intro a im hw ho hs
    have : a = nm := by omega
    subst this
    refine ⟨im, ho, hs, ?_⟩
    rw [LX12_change_130]
    simp only [QX12_change, iR_18 hR ho, i2 l hl2, iR_94 hR ho, nI_le (Nat.le_refl a) (show a < 2 ^ 31 by omega), if_true]
  | succ w ih =>
    intro a im hw ho hs
    have ha : a < nm := by omega
    have ha7 : a < 7 := by omega
    have hlt : ¬ nI nm ≤ nI a := nI_ge (by omega) (by omega)
    have hsa := hs.2 a ha
    rw [if_neg (by omega)] at hsa
    obtain ⟨q, hq, eq⟩ := (rR_side hr ha).2
    by_cases hb : t.testBit a = true
    · let X := gm_up (gm_up im 117 (7 + a) (im 117 a)) 117 a (nI ((q + 1) % ns))
      have oX : Off B X := (ho.up rfl (by decide)).up rfl (by decide)
      have hmod : (q + 1) % ns < ns := Nat.mod_lt _ (by omega)
      obtain ⟨im', o', s', h'⟩ := ih (a + 1) X (by omega) oX (by
        refine ⟨fun j h1 h2 => ?_, fun b hb2 => ?_⟩
        · show gm_up (gm_up im 117 (7 + a) (im 117 a)) 117 a _ 117 j = _
          rw [gu_nk (by omega), gu_nk (by omega)]; exact hs.1 j h1 h2
        · by_cases e : b = a
          · subst e
            rw [if_pos ⟨by omega, hb⟩]
            refine ⟨?_, (q + 1) % ns, hmod, gu_eq⟩
            show gm_up (gm_up im 117 (7 + b) (im 117 b)) 117 b _ 117 (7 + b) = _
            rw [gu_nk (by omega), gu_eq]; exact hsa.2
          · have := hs.2 b hb2
            have e7 : X 117 (7 + b) = im 117 (7 + b) := by
              show gm_up (gm_up im 117 (7 + a) (im 117 a)) 117 a _ 117 (7 + b) = _
              rw [gu_nk (by omega), gu_nk (by omega)]
            have e0 : X 117 b = im 117 b := by
              show gm_up (gm_up im 117 (7 + a) (im 117 a)) 117 a _ 117 b = _
              rw [gu_nk (by omega), gu_nk (by omega)]
            rw [e7, e0]
            by_cases hc : b < a ∧ t.testBit b = true
            · rw [if_pos hc] at this; rw [if_pos ⟨by omega, hc.2⟩]; exact this
            · rw [if_neg hc] at this; rw [if_neg (fun hh => hc ⟨by omega, hh.2⟩)]; exact this)
      refine ⟨im', o', s', ?_⟩
      have hXe : X = gm_up (gm_up im 117 (7 + a) (nI q)) 117 a (nI ((q + 1) % ns)) := by
        show gm_up (gm_up im 117 (7 + a) (im 117 a)) 117 a (nI ((q + 1) % ns)) = _
        rw [hsa.2, eq]
      have hz : ¬ nI ns = 0 := nI_ne0 (by omega) (by omega)
      have hmd : nI (q + 1) - nI (q + 1) / nI ns * nI ns = nI ((q + 1) % ns) := nI_mod (by omega) (by omega) (by omega)
      rw [← h', hXe, LX12_change_130]
      simp (decide := true) only [QX12_change, iR_18 hR ho, i2 l hl2, iR_94 hR ho, iR_93 hR ho, hlt, if_false, if_true, bitn (show t < 256 by omega) (show a < 8 by omega), hb, b32_t, ixr7 a ha7, hsa.2, eq, hz, M_swears ha7, gm_cont_v, nI_a1, hmd]
    · obtain ⟨im', o', s', h'⟩ := ih (a + 1) im (by omega) ho (by
        refine ⟨hs.1, fun b hb2 => ?_⟩
        have := hs.2 b hb2
        by_cases hc : b < a ∧ t.testBit b = true
        · rw [if_pos hc] at this; rw [if_pos ⟨by omega, hc.2⟩]; exact this
        · rw [if_neg hc] at this
          rw [if_neg (fun hh => by
            by_cases e : b = a
            · subst e; exact hb hh.2
            · exact hc ⟨by omega, hh.2⟩)]
          exact this)
      refine ⟨im', o', s', ?_⟩
      rw [← h', LX12_change_130]
      simp only [Bool.not_eq_true] at hb
      simp (decide := true) only [QX12_change, iR_18 hR ho, i2 l hl2, iR_94 hR ho, hlt, if_false, if_true, bitn (show t < 256 by omega) (show a < 8 by omega), hb, b32_f, nI_a1]
theorem M_cho_loop (hR : iRoll B l nm nk nj ns) (hr : rRel (B 22) (B 116) nm nk ns) (im : gm_I) (ho : Off B im) (x1 x2 x3 : Int32) {M : Nat} (hM : M < 128) (x6 x7 : Value) (lm : gm_L) : ∀ (w a : Nat), a + w = nm → gm_den 247 34 [.ref 84, .int x1, .int x2, .int x3, .int (nI (canN M (fun a => !decide (B 116 (7 + a) = -2)) a)), .int (nI a), x6, x7] [] 128 gm_RF im lm = gm_den 247 78 [.ref 84, .int x1, .int x2, .int x3, .int (nI (canN M (fun a => !decide (B 116 (7 + a) = -2)) nm)), .int (nI nm), x6, x7] [] 128 gm_RF im lm := by
  have hm7 := iR_nm hR
  have hl2 := iR_l hR
  intro w
  induction w with
  | zero =>
    intro a hw
    have : a = nm := by omega
    subst this
    rw [LX12_change_34]
    simp only [QX12_change, iR_18 hR ho, i2 l hl2, iR_94 hR ho, nI_le (Nat.le_refl a) (show a < 2 ^ 31 by omega), if_true]
  | succ w ih =>
    intro a hw
    have h1 := ih (a + 1) (by omega)
    have hlt : ¬ nI nm ≤ nI a := nI_ge (by omega) (by omega)
    have hn7 := left_neg (iR_ns hR) hr (show a < nm by omega)
    have e7 : im 116 (7 + a) = B 116 (7 + a) := by rw [ho.1 116 rfl]
    have hc := canN_lt hM (fun a => !decide (B 116 (7 + a) = -2)) a
    rw [← h1, LX12_change_34]
    by_cases hb : B 116 (7 + a) = -2
    · have e : canN M (fun a => !decide (B 116 (7 + a) = -2)) (a + 1) = canN M (fun a => !decide (B 116 (7 + a) = -2)) a := by simp [canN, hb]
      rw [e]
      simp (decide := true) only [QX12_change, iR_18 hR ho, i2 l hl2, iR_94 hR ho, hlt, if_false, if_true, ixr7 a (show a < 7 by omega), e7, hn7.1.mpr hb, nI_a1]
    · have e : canN M (fun a => !decide (B 116 (7 + a) = -2)) (a + 1) = canN M (fun a => !decide (B 116 (7 + a) = -2)) a &&& (127 - 2 ^ a) := by simp [canN, hb]
      rw [e, ← clrn (show a < 7 by omega) hc]
      simp (decide := true) only [QX12_change, iR_18 hR ho, i2 l hl2, iR_94 hR ho, hlt, if_false, if_true, ixr7 a (show a < 7 by omega), e7, show ¬ B 116 (7 + a) < 0 from fun hh => hb (hn7.1.mp hh), nI_a1]
/-- it falls as with those changed over -/
theorem ch_fall (hR : iRoll B l nm nk nj ns) (hr : rRel (B 22) (B 116) nm nk ns) {m : Nat} (hm : m < nk) {X : gm_I} (oX : Off B X) {t : Nat} (hX : swR B X nm ns t nm) (hns : ∀ a, a < nm → t.testBit a = true → B 116 (7 + a) = -2) : mFall B X l nm nj (nI m) 0 = vFall B nj (cSpk B (nI m)) nm (chV B t) ∧ rOk (X 117) nm ns := by
  have hm7 := iR_nm hR
  have hk5 := iR_nk hR
  have hns' := iR_ns hR
  constructor
  · apply mFall_v 0
    · intro a ha
      unfold mSpk cSpk
      rw [hX.1 (21 + a) (by omega) (by omega), (rR_top hr ha).1]
    · intro a ha hf
      have hsp := spk_ne hk5 hr hm ha hf
      rw [slip0 0 rfl]
      let Y := gm_up (gm_up X 117 (7 + a) (B 116 (7 + a))) 117 a (B 116 a)
      -- the row as it is, as far as he goes
      have hXa := hX.2 a ha
      have gX : ∀ j, 14 ≤ j → j < 80 → X 117 j = B 116 j := hX.1
      have hold := rR_old hr ha
      have full : ∀ i, 2 ≤ i → i ≤ 10 → i ≠ 4 → i ≠ 9 → mV X l a (X 117 (28 + a)) 0 i = dV B (B 22 75) a i := by
        intro i h1 h2 h4 h9
        have e5 : X 117 (28 + a) = B 22 (10 * a + 4) := by
          rw [gX (28 + a) (by omega) (by omega)]
          rcases rR_man hr ha with ⟨e, -⟩ | ⟨-, e, -⟩
          · exact absurd e hsp
          · exact e.symm
        have e96 : X 96 (7 * l + a) = B 12 (4 * a + 1) := by rw [oX.1 96 rfl]; exact (iR_man hR ha).2.1
        have : i = 2 ∨ i = 3 ∨ i = 5 ∨ i = 6 ∨ i = 7 ∨ i = 8 ∨ i = 10 := by omega
        rcases this with rfl | rfl | rfl | rfl | rfl | rfl | rfl
        · simp [mV, dV, upd, cV]
        · simp [mV, dV, upd, cV, e96]
        · simp [mV, dV, upd, cV, e5]
        · simp [mV, dV, upd, cV]
        · simp [mV, dV, upd, cV, gX (35 + a) (by omega) (by omega), (rR_prs hr ha).1]
        · simp [mV, dV, upd, gX 75 (by omega) (by omega), rR_day hr]
        · simp only [mV, dV, upd, cV]
          rw [gX (49 + a) (by omega) (by omega), gX (56 + a) (by omega) (by omega)]
          rcases hold with ⟨e, e2⟩ | ⟨⟨o, ho7, e⟩, e2, -⟩
          · simp [e, e2]
          · have hno : ¬ nI o < 0 := nI_nlt (Nat.zero_le o) (by omega)
            simp [e, e2, hno]
      intro i i1 i2
      unfold chV
      by_cases hb : t.testBit a = true
      · rw [if_pos ⟨ha, hb⟩] at hXa
        rw [if_pos hb]
        unfold oaV
        by_cases e4 : i = 4
        · subst e4
          obtain ⟨q, hq, eq⟩ := (rR_side hr ha).2
          have h0 : (0 : Int32) ≤ B 116 a := by rw [eq]; exact nI_le (a := 0) (Nat.zero_le _) (by omega)
          have l1 : mV X l a (X 117 (28 + a)) 0 4 = B 116 a := by
            simp only [mV, mPl]
            rw [hXa.1]
            simp [h0]
          rw [l1, ← (rR_side hr ha).1]
          simp [upd]
        · by_cases e9 : i = 9
          · subst e9
            obtain ⟨q, hq, eq⟩ := (rR_side hr ha).2
            have h0 : ¬ B 116 a < 0 := by rw [eq]; exact nI_nlt (Nat.zero_le q) (by omega)
            have l1 : mV X l a (X 117 (28 + a)) 0 9 = 1 := by
              simp only [mV]
              rw [hXa.1]
              simp [h0]
            rw [l1]; simp [upd]
          · rw [full i i1 i2 e4 e9]; simp [upd, e4, e9]
      · rw [if_neg (fun hh => hb hh.2)] at hXa
        rw [if_neg hb]
        by_cases e4 : i = 4
        · subst e4
          have := (mPl_ok hns' (rR_side hr ha).2 (rR_left hr ha).2).1
          have l1 : mV X l a (X 117 (28 + a)) 0 4 = mPl (B 116 (7 + a)) (B 116 a) (nI ns) := by
            simp only [mV]
            rw [hXa.1, hXa.2, iR_93 hR oX]
            simp
          rw [l1, this]
          have e0 := (rR_side hr ha).1
          simp only [Nat.add_zero] at e0
          simp [dV, upd, cV, (rR_left hr ha).1, e0, iR_110 hR (Off.rf B)]
        · by_cases e9 : i = 9
          · subst e9
            have n7 := left_neg hns' hr ha
            have l1 : mV X l a (X 117 (28 + a)) 0 9 = if B 116 (7 + a) < 0 then 0 else 1 := by
              simp only [mV]
              rw [hXa.1]
              simp
            rw [l1]
            simp only [dV, upd, cV]
            rw [(rR_left hr ha).1]
            by_cases hl : B 116 (7 + a) = -2
            · rw [if_pos (n7.1.mpr hl)]; simp [hl]
            · rw [if_neg (fun hh => hl (n7.1.mp hh))]; simp [hl]
          · exact full i i1 i2 e4 e9
  · have hok := rRel_ok hns' hr
    refine ⟨fun a ha => ?_, fun a ha => ?_⟩
    · have hXa := hX.2 a ha
      by_cases hc : a < nm ∧ t.testBit a = true
      · rw [if_pos hc] at hXa
        refine ⟨hXa.2, Or.inr ?_⟩
        rw [hXa.1]
        exact (rR_side hr ha).2
      · rw [if_neg hc] at hXa
        rw [hXa.1, hXa.2]
        exact hok.1 a ha
    · rw [hX.1 (49 + a) (by omega) (by omega), hX.1 (56 + a) (by omega) (by omega)]
      exact hok.2 a ha
end
