theorem ix70r (m : Nat) (hm : m < 5) : gm_in (70 + nI m) 80 = true ∧ (70 + nI m).toNatClampNeg = 70 + m := by
  rw [show (70 : Int32) = nI 70 from rfl, nI_add]; exact ⟨gm_in_nI (by omega) (by decide), nI_clamp (by omega)⟩
theorem rOld_sitF {R : Nat → Int32} {f : Nat → Bool} {P G S : Nat → Int32} {n nm : Nat} (hn : n ≤ 7) (hm : nm ≤ 7) (h : rOld R nm) : rOld (sitF R f P G S n) nm := by
  intro b hb h1
  obtain ⟨q1, -, -⟩ := sitF_ok R f P G S n hn
  have e7 := q1 b (by omega) 7 (by decide)
  have e8 := q1 b (by omega) 8 (by decide)
  have e7' : sitF R f P G S n (49 + b) = _ := e7
  have e8' : sitF R f P G S n (56 + b) = _ := e8
  by_cases c : b < n ∧ f b = true
  · rw [if_pos c] at e7'
    rw [e7'] at h1
    exact absurd (show (-2 : Int32) < 0 by decide) h1
  · rw [if_neg c] at e7' e8'
    rw [e7'] at h1
    rw [e8']
    exact h b hb h1
section
variable {B : gm_I} {l nm nk nj ns : Nat}
theorem M_sits_a (hR : iRoll B l nm nk nj ns) {im : gm_I} (ho : Off B im) (m : Int32) (f : Nat → Bool) (x5 x6 x7 : Value) (lm : gm_L) : ∀ (w a : Nat), a + w = nm → gm_den 226 11 [.ref 84, .int m, .int (nI (gM f nm)), .int (nI (gM (fun b => f b && sSl B (im 84 51) (im 117 75) b) a)), .int (nI a), x5, x6, x7] [] 128 gm_RF im lm = gm_den 226 57 [.ref 84, .int m, .int (nI (gM f nm)), .int (nI (gM (fun b => f b && sSl B (im 84 51) (im 117 75) b) nm)), .int (nI nm), x5, x6, x7] [] 128 gm_RF im lm := by
  have hm7 := iR_nm hR
  have hl2 := iR_l hR
  have hM : gM f nm < 256 := by
    have := gM_lt f nm
    have h2 : 2 ^ nm ≤ 2 ^ 7 := Nat.pow_le_pow_right (by decide) hm7
    omega
  intro w
  induction w with
  | zero =>
    intro a hw
    have : a = nm := by omega
    subst this
    rw [LX12_sits_11]
    simp only [QX12_sits, iR_18 hR ho, i2 l hl2, iR_94 hR ho, nI_le (Nat.le_refl a) (show a < 2 ^ 31 by omega), if_true]
  | succ w ih =>
    intro a hw
    have hlt : ¬ nI nm ≤ nI a := nI_ge (by omega) (by omega)
    have h1 := ih (a + 1) (by omega)
    have hb : (nI (gM f nm) >>> (nI a &&& 31)) &&& 1 = b32 (f a) := by
      rw [bitn hM (show a < 8 by omega), gM_bit, decide_eq_true (show a < nm by omega), Bool.true_and]
    have hs := M_slips hR ho lm (show a < nm by omega)
    rw [← h1, LX12_sits_11]
    cases hf : f a with
    | false =>
      rw [hf] at hb
      simp (decide := true) only [QX12_sits, iR_18 hR ho, i2 l hl2, iR_94 hR ho, hlt, if_true, if_false, hb, b32_f, nI_a1, gM, hf, Bool.false_and]
    | true =>
      rw [hf] at hb
      cases hsl : sSl B (im 84 51) (im 117 75) a with
      | false =>
        rw [hsl] at hs
        simp (decide := true) only [QX12_sits, iR_18 hR ho, i2 l hl2, iR_94 hR ho, hlt, if_true, if_false, hb, b32_t, b32_f, hs, gm_cont_i, nI_a1, gM, hf, hsl, Bool.true_and]
      | true =>
        rw [hsl] at hs
        simp (decide := true) only [QX12_sits, iR_18 hR ho, i2 l hl2, iR_94 hR ho, hlt, if_true, if_false, hb, b32_t, b32_f, hs, gm_cont_i, gm_cat_i, nI_a1, bs (show a < 8 by omega) (gM_lt _ a), gM, hf, hsl, Bool.true_and]
theorem M_sits_b (hR : iRoll B l nm nk nj ns) (h0 : nj ≠ 0) {m : Nat} (hm : m < 5) {R : Nat → Int32} (hold : rOld R nm) (f : Nat → Bool) (SL : Nat) (hSL : SL < 256) (to z : Int32) (lm : gm_L) : ∀ (w a : Nat) (im : gm_I) (x6 x7 : Value), a + w = nm → Off B im → im 84 51 = z → x6.category = 1 → x7.category = 1 → im 117 = sitF R f (fun a => vPy B nj (rV B l R a (b32 (SL.testBit a))) (R (14 + a))) (fun a => vGd B (rV B l R a (b32 (SL.testBit a)))) (fun a => b32 (SL.testBit a)) a → ∃ im', gm_den 226 68 [.ref 84, .int (nI m), .int (nI (gM f nm)), .int (nI SL), .int to, .int (nI a), x6, x7] [] 128 gm_RF im lm = some (some (.int to), 128, gm_RF, im', lm) ∧ Off B im' ∧ im' 84 51 = z ∧ im' 117 = upd (upd (sitF R f (fun a => vPy B nj (rV B l R a (b32 (SL.testBit a))) (R (14 + a))) (fun a => vGd B (rV B l R a (b32 (SL.testBit a)))) (fun a => b32 (SL.testBit a)) nm) (70 + m) to) 75 (R 75 + 1) := by
  have hm7 := iR_nm hR
  have hl2 := iR_l hR
  have hM : gM f nm < 256 := by
    have := gM_lt f nm
    have h2 : 2 ^ nm ≤ 2 ^ 7 := Nat.pow_le_pow_right (by decide) hm7
    omega
  generalize hP : (fun a => vPy B nj (rV B l R a (b32 (SL.testBit a))) (R (14 + a))) = P
  generalize hG : (fun a => vGd B (rV B l R a (b32 (SL.testBit a)))) = G
  generalize hS : (fun a => b32 (SL.testBit a)) = S
  intro w
  induction w with
  | zero =>
    intro a im x6 x7 hw ho hz c6 c7 h117
    have : a = nm := by omega
    subst this
    obtain ⟨-, -, s3⟩ := sitF_ok R f P G S a (by omega)
    have e75 : gm_up im 117 (70 + m) to 117 75 = R 75 := by
      rw [gu_nk (by omega), h117, s3 75 (by decide) (by decide)]
    refine ⟨gm_up (gm_up im 117 (70 + m) to) 117 75 (R 75 + 1), ?_, (ho.up rfl (by decide)).up rfl (by decide), ?_, ?_⟩
    · rw [LX12_sits_68]
      simp (decide := true) only [QX12_sits, iR_18 hR ho, i2 l hl2, iR_94 hR ho, nI_le (Nat.le_refl a) (show a < 2 ^ 31 by omega), if_true, ix70r m hm, i75, e75]
    · rw [gu_ne (by decide), gu_ne (by decide)]; exact hz
    · rw [gu_upd, gu_upd, h117]
  | succ w ih =>
    intro a im x6 x7 hw ho hz c6 c7 h117
    have ha : a < nm := by omega
    have ha7 : a < 7 := by omega
    have hlt : ¬ nI nm ≤ nI a := nI_ge (by omega) (by omega)
    have hb : (nI (gM f nm) >>> (nI a &&& 31)) &&& 1 = b32 (f a) := by
      rw [bitn hM (show a < 8 by omega), gM_bit, decide_eq_true ha, Bool.true_and]
    have hb2 : (nI SL >>> (nI a &&& 31)) &&& 1 = S a := by rw [← hS]; exact bitn hSL (show a < 8 by omega)
    cases hf : f a with
    | false =>
      rw [hf] at hb
      obtain ⟨im', h1, h2⟩ := ih (a + 1) im x6 x7 (by omega) ho hz c6 c7 (by rw [h117]; simp only [sitF, hf]; rfl)
      refine ⟨im', ?_, h2⟩
      rw [← h1, LX12_sits_68]
      simp (decide := true) only [QX12_sits, iR_18 hR ho, i2 l hl2, iR_94 hR ho, hlt, if_true, if_false, hb, b32_f, nI_a1]
    | true =>
      rw [hf] at hb
      obtain ⟨s1, s2, s3⟩ := sitF_ok R f P G S a (by omega)
      have own : ∀ k, k < 10 → im 117 (7 * k + a) = R (7 * k + a) := fun k hk => by rw [h117, s1 a ha7 k hk, if_neg (by omega)]
      have o14 : im 117 (14 + a) = R (14 + a) := own 2 (by decide)
      have e75 : im 117 75 = R 75 := by rw [h117, s3 75 (by decide) (by decide)]
      obtain ⟨im1, h1, o1⟩ := M_fine0 hR ho (by rw [h117]; exact rOld_sitF (by omega) hm7 hold) ha h0 (S a) lm
      rw [rV_loc (fun k hk _ => own k hk) e75, o14, show vPy B nj (rV B l R a (S a)) (R (14 + a)) = P a by rw [← hP, ← hS]] at h1
      have e1 : im1 117 = im 117 := o1.1 117 (by decide) (by decide) (by decide)
      have O1 : Off B im1 := ho.tr o1.off
      let im2 := gm_up (gm_up im1 117 (14 + a) (im 117 (14 + a) - P a)) 117 76 (im 117 76 + P a)
      have O2 : Off B im2 := (O1.up rfl (by decide)).up rfl (by decide)
      have r2 : im2 117 = upd (upd (im 117) (14 + a) (im 117 (14 + a) - P a)) 76 (im 117 76 + P a) := by
        show gm_up (gm_up im1 117 (14 + a) _) 117 76 _ 117 = _
        rw [gu_upd, gu_upd, e1]
      have c2 : ∀ j, j ≠ 14 + a → j ≠ 76 → im2 117 j = im 117 j := fun j x y => by rw [r2, upd_ne _ _ y, upd_ne _ _ x]
      obtain ⟨im3, h3, o3⟩ := M_goodNowB hR O2 (fun b hb h => by
        rw [c2 _ (by omega) (by omega)] at h ⊢
        rw [h117] at h ⊢
        exact rOld_sitF (by omega) hm7 hold b hb h) a (S a) lm ha
      rw [mV_rV O2, rV_loc (r := R) (fun k hk h2 => by rw [c2 _ (by omega) (by omega)]; exact own k hk) (by rw [c2 _ (by omega) (by decide)]; exact e75), show vGd B (rV B l R a (S a)) = G a by rw [← hG, ← hS]] at h3
      have e3 : im3 117 = im2 117 := o3.1 117 (by decide) (by decide) (by decide)
      have O3 : Off B im3 := O2.tr o3.off
      let im4 := gm_up (gm_up (gm_up im3 117 (42 + a) (G a)) 117 (63 + a) (im 117 (63 + a) + S a)) 117 (35 + a) 0
      let im5 := gm_up (gm_up (gm_up (gm_up im4 117 (21 + a) (-2)) 117 (28 + a) 0) 117 (49 + a) (-2)) 117 (56 + a) 0
      have O5 : Off B im5 := ((((((O3.up rfl (by decide)).up rfl (by decide)).up rfl (by decide)).up rfl (by decide)).up rfl (by decide)).up rfl (by decide)).up rfl (by decide)
      have r5 : im5 117 = sitU (im 117) a (P a) (G a) (S a) := by
        show gm_up (gm_up (gm_up (gm_up (gm_up (gm_up (gm_up im3 117 _ _) 117 _ _) 117 _ _) 117 _ _) 117 _ _) 117 _ _) 117 _ _ 117 = _
        rw [gu_upd, gu_upd, gu_upd, gu_upd, gu_upd, gu_upd, gu_upd, e3, r2]
        rfl
      have z5 : im5 84 51 = z := by
        show gm_up (gm_up (gm_up (gm_up (gm_up (gm_up (gm_up im3 117 _ _) 117 _ _) 117 _ _) 117 _ _) 117 _ _) 117 _ _) 117 _ _ 84 51 = _
        rw [gu_ne (by decide), gu_ne (by decide), gu_ne (by decide), gu_ne (by decide), gu_ne (by decide), gu_ne (by decide), gu_ne (by decide), o3.2 51 (by decide)]
        show gm_up (gm_up im1 117 _ _) 117 76 _ 84 51 = _
        rw [gu_ne (by decide), gu_ne (by decide), o1.2 51 (by decide)]; exact hz
      obtain ⟨im', g1, g2⟩ := ih (a + 1) im5 (.int (S a)) (.int (P a)) (by omega) O5 z5 rfl rfl (by rw [r5, h117]; simp only [sitF, hf]; rfl)
      refine ⟨im', ?_, g2⟩
      have p14 : im1 117 (14 + a) = im 117 (14 + a) := by rw [e1]
      have p76 : gm_up im1 117 (14 + a) (im 117 (14 + a) - P a) 117 76 = im 117 76 := by rw [gu_nk (by omega), e1]
      have p63 : gm_up im3 117 (42 + a) (G a) 117 (63 + a) = im 117 (63 + a) := by rw [gu_nk (by omega), e3, c2 _ (by omega) (by omega)]
      rw [← g1, LX12_sits_68]
      simp (decide := true) only [QX12_sits, iR_18 hR ho, i2 l hl2, iR_94 hR ho, hlt, if_true, if_false, hb, hb2, b32_t, h1, gm_cont_i, gm_cat_i, c6, c7, ixr7 a ha7, p14, i76, p76]
      rw [show gm_up (gm_up im1 117 (14 + a) (im 117 (14 + a) - P a)) 117 76 (im 117 76 + P a) = im2 from rfl, h3]
      simp (decide := true) only [QX12_sits, gm_cont_i, gm_cont_v, ixr7 a ha7, if_true, p63, M_silences ha7, nI_a1]
      rfl
theorem M_sits (hR : iRoll B l nm nk nj ns) (h0 : nj ≠ 0) {m : Nat} (hm : m < 5) {im : gm_I} (ho : Off B im) (hok : rOk (im 117) nm ns) (lm : gm_L) : ∃ im', gm_den 226 0 [.ref 84, .int (nI m), .null, .null, .null, .null, .null, .null] [] 128 gm_RF im lm = some (some (.int (eO (mFall B im l nm nj (nI m) (gM (fun b => mSpk im (nI m) b && sSl B (im 84 51) (im 117 75) b) nm)))), 128, gm_RF, im', lm) ∧ Off B im' ∧ im' 84 51 = im 84 51 ∧ im' 117 = upd (upd (sitF (im 117) (mSpk im (nI m)) (fun a => vPy B nj (rV B l (im 117) a (b32 ((gM (fun b => mSpk im (nI m) b && sSl B (im 84 51) (im 117 75) b) nm).testBit a))) (im 117 (14 + a))) (fun a => vGd B (rV B l (im 117) a (b32 ((gM (fun b => mSpk im (nI m) b && sSl B (im 84 51) (im 117 75) b) nm).testBit a)))) (fun a => b32 ((gM (fun b => mSpk im (nI m) b && sSl B (im 84 51) (im 117 75) b) nm).testBit a)) nm) (70 + m) (eO (mFall B im l nm nj (nI m) (gM (fun b => mSpk im (nI m) b && sSl B (im 84 51) (im 117 75) b) nm)))) 75 (im 117 75 + 1) := by
  have hm7 := iR_nm hR
  have n1 : Value.category .null = 1 := rfl
  have hs := M_speakers hR ho (nI m) lm
  have ha := M_sits_a hR ho (nI m) (mSpk im (nI m)) .null .null .null lm nm 0 (by omega)
  have hSL : gM (fun b => mSpk im (nI m) b && sSl B (im 84 51) (im 117 75) b) nm < 256 := by
    have := gM_lt (fun b => mSpk im (nI m) b && sSl B (im 84 51) (im 117 75) b) nm
    have h2 : 2 ^ nm ≤ 2 ^ 7 := Nat.pow_le_pow_right (by decide) hm7
    omega
  generalize gM (fun b => mSpk im (nI m) b && sSl B (im 84 51) (im 117 75) b) nm = SL at *
  obtain ⟨im1, h1, o1, -⟩ := M_fallsTo hR ho hok (nI m) SL hSL lm
  have e1 : im1 117 = im 117 := o1.1 117 (by decide) (by decide) (by decide) (by decide) (by decide)
  obtain ⟨im', h2, h3⟩ := M_sits_b hR h0 hm (R := im 117) hok.2 (mSpk im (nI m)) SL hSL (eO (mFall B im l nm nj (nI m) SL)) (im 84 51) lm nm 0 im1 .null .null (by omega) (ho.tr o1.off) (o1.2 51 (by decide)) rfl rfl e1
  refine ⟨im', ?_, h3⟩
  rw [← h2]
  have e0 : mSp im nm (nI m) = gM (mSpk im (nI m)) nm := rfl
  rw [e0] at hs
  simp (decide := true) only [QX12_sits, hs, gm_cont_i, gm_cat_i, n1, if_true]
  refine Eq.trans ha ?_
  simp (decide := true) only [QX12_sits, h1, gm_cont_i, gm_cat_i, n1, if_true]
  rfl
end
