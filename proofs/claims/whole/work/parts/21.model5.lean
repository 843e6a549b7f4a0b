/-! the reference: sums by sides, to whom it falls -/
def nOff (im im' : gm_I) : Prop := (∀ q, q ≠ 114 → q ≠ 115 → q ≠ 118 → q ≠ 119 → q ≠ 84 → im' q = im q) ∧ ∀ k, k ≠ 48 → im' 84 k = im 84 k
theorem nOff.rf (im : gm_I) : nOff im im := ⟨fun _ _ _ _ _ _ => rfl, fun _ _ => rfl⟩
theorem nOff.tr {a b c : gm_I} (h : nOff a b) (k : nOff b c) : nOff a c := ⟨fun q h1 h2 h3 h4 h5 => (k.1 q h1 h2 h3 h4 h5).trans (h.1 q h1 h2 h3 h4 h5), fun q h1 => (k.2 q h1).trans (h.2 q h1)⟩
theorem mOff.n {im im' : gm_I} (h : mOff im im') : nOff im im' := ⟨fun q h1 h2 _ _ h5 => h.1 q h1 h2 h5, h.2⟩
theorem nOff.off {im im' : gm_I} (h : nOff im im') : Off im im' := by
  refine ⟨fun q hq => h.1 q ?_ ?_ ?_ ?_ ?_, fun k hk => h.2 k ?_⟩
  · intro e; subst e; exact absurd hq (by decide)
  · intro e; subst e; exact absurd hq (by decide)
  · intro e; subst e; exact absurd hq (by decide)
  · intro e; subst e; exact absurd hq (by decide)
  · intro e; subst e; exact absurd hq (by decide)
  · intro e; subst e; exact absurd hk (by decide)
theorem nOff.r {im im' : gm_I} (h : nOff im im') : im' 117 = im 117 := h.1 117 (by decide) (by decide) (by decide) (by decide) (by decide)
theorem nOff.up {im im' : gm_I} (h : nOff im im') {q k : Nat} {v : Int32} (hq : q = 118 ∨ q = 119) : nOff im (gm_up im' q k v) := by
  refine ⟨fun p h1 h2 h3 h4 h5 => ?_, fun j hj => ?_⟩
  · have : p ≠ q := by rcases hq with rfl | rfl <;> assumption
    rw [gu_row this]; exact h.1 p h1 h2 h3 h4 h5
  · rw [gu_ne (by rcases hq with rfl | rfl <;> decide)]; exact h.2 j hj
theorem mV_noff {im im' : gm_I} (h : nOff im im') (l a : Nat) (ma sl : Int32) : mV im' l a ma sl = mV im l a ma sl := by
  unfold mV
  rw [h.1 96 (by decide) (by decide) (by decide) (by decide) (by decide), h.r, h.1 93 (by decide) (by decide) (by decide) (by decide) (by decide)]
def gS (spk : Nat → Bool) (P : Nat → Nat) (T : Nat → Int32) (s : Nat) : Nat → Int32
  | 0 => 0
  | a + 1 => if spk a && P a == s then gS spk P T s a + T a else gS spk P T s a
theorem i3s (s : Nat) (hs : s < 3) : gm_in (nI s) 3 = true ∧ (nI s).toNatClampNeg = s := ⟨gm_in_nI hs (by decide), nI_clamp (by omega)⟩
/-- the sum of a speech as it stands in the row, by some jurors -/
def mT3 (B im : gm_I) (l nj a : Nat) (sl : Int32) (J : Nat) : Int32 := vTj B (mV im l a (im 117 (28 + a)) sl) (vGd B (mV im l a (im 117 (28 + a)) sl)) J nj
def b32 (b : Bool) : Int32 := if b then 1 else 0
def mSpk (im : gm_I) (m : Int32) (a : Nat) : Bool := decide (im 117 (21 + a) = m)
theorem M_fills_loop {B im0 : gm_I} {l nm nk nj ns : Nat} (hR : iRoll B l nm nk nj ns) (ho0 : Off B im0) (hr : rOld (im0 117) nm) (m : Int32) (SL J : Nat) (hSL : SL < 256) (hJ : J < 256) (P : Nat → Nat) (hP : ∀ a, a < nm → im0 117 (21 + a) = m → mPl (im0 117 (7 + a)) (im0 117 a) (im0 93 l) = nI (P a) ∧ P a < 3) (lm : gm_L) : ∀ (w a : Nat) (im : gm_I) (x5 x6 : Value), a + w = nm → nOff im0 im → (∀ s, s < 3 → im 118 s = gS (mSpk im0 m) P (fun a => mT3 B im0 l nj a (b32 (SL.testBit a)) J) s a ∧ im 119 s = gS (mSpk im0 m) P (fun _ => 1) s a) → x5.category = 1 → x6.category = 1 → ∃ im', gm_den 220 34 [.ref 84, .int m, .int (nI SL), .int (nI J), .int (nI a), x5, x6] [] 128 gm_RF im lm = some (none, 128, gm_RF, im', lm) ∧ nOff im0 im' ∧ ∀ s, s < 3 → im' 118 s = gS (mSpk im0 m) P (fun a => mT3 B im0 l nj a (b32 (SL.testBit a)) J) s nm ∧ im' 119 s = gS (mSpk im0 m) P (fun _ => 1) s nm := by
  intro w
  have hm7 := iR_nm hR
  have hl2 := iR_l hR
  induction w with
  | zero =>
    intro a im x5 x6 hw hn hs c5 c6
    have : a = nm := by omega
    subst this
    have ho := ho0.tr hn.off
    refine ⟨im, ?_, hn, hs⟩
    rw [LX12_fillsSums_34]
    simp only [QX12_fillsSums, iR_18 hR ho, i2 l hl2, iR_94 hR ho, nI_le (Nat.le_refl a) (show a < 2 ^ 31 by omega), if_true, c5, c6]
  | succ w ih =>
    intro a im x5 x6 hw hn hs c5 c6
    have ho := ho0.tr hn.off
    rw [LX12_fillsSums_34]
    have hlt : ¬ nI nm ≤ nI a := nI_ge (by omega) (by omega)
    have h117 := hn.r
    have h93 : im 93 = im0 93 := hn.1 93 (by decide) (by decide) (by decide) (by decide) (by decide)
    by_cases hb : im0 117 (21 + a) = m
    · obtain ⟨hP1, hP2⟩ := hP a (by omega) hb
      have hbt : (nI SL >>> (nI a &&& 31)) &&& 1 = b32 (SL.testBit a) := by rw [bt hSL (show a < 8 by omega)]; rfl
      have hpl := M_pleadsFor a l im lm (by omega) (iR_18 hR ho) hl2 (iR_ns0 hR ho)
      rw [h117, h93, hP1] at hpl
      obtain ⟨im1, h1, h2⟩ := M_goodNowB hR ho (by rw [h117]; exact hr) a (b32 (SL.testBit a)) lm (by omega)
      rw [h117, mV_noff hn] at h1
      have ho1 := ho.tr h2.off
      obtain ⟨im2, h3, h4⟩ := M_sumBy hR ho1 a J (im0 117 (28 + a)) (b32 (SL.testBit a)) (vGd B (mV im0 l a (im0 117 (28 + a)) (b32 (SL.testBit a)))) lm (by omega) hJ
      rw [mV_off h2, mV_noff hn] at h3
      have hn2 := hn.tr (h2.tr h4).n
      have e118 : im2 118 = im 118 := (h2.tr h4).1 118 (by decide) (by decide) (by decide)
      have e119 : im2 119 = im 119 := (h2.tr h4).1 119 (by decide) (by decide) (by decide)
      obtain ⟨im', h5, h6, h7⟩ := ih (a + 1) (gm_up (gm_up im2 118 (P a) (im 118 (P a) + mT3 B im0 l nj a (b32 (SL.testBit a)) J)) 119 (P a) (im 119 (P a) + 1)) (.int (b32 (SL.testBit a))) (.int (nI (P a))) (by omega) ((hn2.up (Or.inl rfl)).up (Or.inr rfl)) (by
        intro s hs3
        simp only [gS, mSpk, hb, decide_true, Bool.true_and, beq_iff_eq]
        by_cases he : P a = s
        · subst he
          constructor
          · rw [gu_ne (by decide), gu_eq, if_pos rfl, (hs (P a) hP2).1]
          · rw [gu_eq, if_pos rfl, (hs (P a) hP2).2]
        · constructor
          · rw [gu_ne (by decide), gu_nk (Ne.symm he), if_neg he, e118]; exact (hs s hs3).1
          · rw [gu_nk (Ne.symm he), gu_ne (by decide), if_neg he, e119]; exact (hs s hs3).2) rfl rfl
      refine ⟨im', ?_, h6, h7⟩
      have e118' : gm_up im2 118 (P a) (im 118 (P a) + mT3 B im0 l nj a (b32 (SL.testBit a)) J) 119 (P a) = im 119 (P a) := by rw [gu_ne (by decide), e119]
      simp (decide := true) only [QX12_fillsSums, iR_18 hR ho, i2 l hl2, iR_94 hR ho, hlt, if_true, if_false, ixr7 a (show a < 7 by omega), h117, hb, hbt, hpl, gm_cont_i, gm_cat_i, i3s (P a) hP2, h1, h3, c5, c6, nI_a1]
      rw [← mT3.eq_1, e118']
      exact h5
    · obtain ⟨im', h5, h6, h7⟩ := ih (a + 1) im x5 x6 (by omega) hn (by
        intro s hs3
        simp only [gS, mSpk, hb, decide_false, Bool.false_and]
        exact hs s hs3) c5 c6
      refine ⟨im', ?_, h6, h7⟩
      simp only [QX12_fillsSums, iR_18 hR ho, i2 l hl2, iR_94 hR ho, hlt, if_true, if_false, ixr7 a (show a < 7 by omega), h117, hb, nI_a1, c5, c6]
      exact h5
theorem M_fillsSums {B im : gm_I} {l nm nk nj ns : Nat} (hR : iRoll B l nm nk nj ns) (ho : Off B im) (hr : rOld (im 117) nm) (m : Int32) (SL J : Nat) (hSL : SL < 256) (hJ : J < 256) (P : Nat → Nat) (hP : ∀ a, a < nm → im 117 (21 + a) = m → mPl (im 117 (7 + a)) (im 117 a) (im 93 l) = nI (P a) ∧ P a < 3) (lm : gm_L) : ∃ im', gm_den 220 0 [.ref 84, .int m, .int (nI SL), .int (nI J), .null, .null, .null] [] 128 gm_RF im lm = some (none, 128, gm_RF, im', lm) ∧ nOff im im' ∧ ∀ s, s < 3 → im' 118 s = gS (mSpk im m) P (fun a => mT3 B im l nj a (b32 (SL.testBit a)) J) s nm ∧ im' 119 s = gS (mSpk im m) P (fun _ => 1) s nm := by
  let z : gm_I := gm_up (gm_up (gm_up (gm_up (gm_up (gm_up im 118 0 0) 119 0 0) 118 1 0) 119 1 0) 118 2 0) 119 2 0
  have hz : nOff im z := ((((((nOff.rf im).up (Or.inl rfl)).up (Or.inr rfl)).up (Or.inl rfl)).up (Or.inr rfl)).up (Or.inl rfl)).up (Or.inr rfl)
  have e1 : mSpk z m = mSpk im m := by funext a; unfold mSpk; rw [hz.r]
  obtain ⟨im', h1, h2, h3⟩ := M_fills_loop hR ho hr m SL J hSL hJ P hP lm nm 0 z .null .null (by omega) hz (by
    intro s hs
    have : s = 0 ∨ s = 1 ∨ s = 2 := by omega
    rcases this with rfl | rfl | rfl <;> simp [z, gm_up, gS]) rfl rfl
  refine ⟨im', ?_, h2, h3⟩
  have n1 : Value.category .null = 1 := rfl
  have st : ∀ (s : Nat) (i : gm_I), s < 3 → gm_den 220 3 [.ref 84, .int m, .int (nI SL), .int (nI J), .int (nI s), .null, .null] [] 128 gm_RF i lm = gm_den 220 3 [.ref 84, .int m, .int (nI SL), .int (nI J), .int (nI (s + 1)), .null, .null] [] 128 gm_RF (gm_up (gm_up i 118 s 0) 119 s 0) lm := by
    intro s i hs
    have h3 : ¬ (3 : Int32) ≤ nI s := nI_ge (b := 3) hs (by decide)
    rw [LX12_fillsSums_3]
    simp only [QX12_fillsSums, gm_cat_i, i3s s hs, h3, if_true, if_false, n1, nI_a1]
  have en : ∀ i : gm_I, gm_den 220 3 [.ref 84, .int m, .int (nI SL), .int (nI J), .int (nI 3), .null, .null] [] 128 gm_RF i lm = gm_den 220 34 [.ref 84, .int m, .int (nI SL), .int (nI J), .int (nI 0), .null, .null] [] 128 gm_RF i lm := by
    intro i
    rw [LX12_fillsSums_3]
    simp (decide := true) only [QX12_fillsSums, gm_cat_i, if_true, n1]
    rfl
  have be : gm_den 220 0 [.ref 84, .int m, .int (nI SL), .int (nI J), .null, .null, .null] [] 128 gm_RF im lm = gm_den 220 3 [.ref 84, .int m, .int (nI SL), .int (nI J), .int (nI 0), .null, .null] [] 128 gm_RF im lm := by
    simp only [QX12_fillsSums, gm_cat_i, n1]
    rfl
  rw [be, st 0 _ (by decide), st 1 _ (by decide), st 2 _ (by decide), en]
  exact h1
