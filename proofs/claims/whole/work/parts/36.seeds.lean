/-! lots; the class: what falls by seeds -/
def sMix (h b : Int32) : Int32 := ((h ^^^ b) * 1103515245 + 12345) ^^^ ((((h ^^^ b) * 1103515245 + 12345)).toUInt32 >>> (Int32.toUInt32 15 &&& Int32.toUInt32 31)).toInt32
def sLot (seed which : Int32) : Int32 := (((sMix (sMix seed 65) which).toUInt32 >>> (Int32.toUInt32 1 &&& Int32.toUInt32 31)).toInt32) - (((sMix (sMix seed 65) which).toUInt32 >>> (Int32.toUInt32 1 &&& Int32.toUInt32 31)).toInt32) / 10 * 10
theorem C_stirred (h b : Int32) (im : gm_I) (lm : gm_L) : gm_den 163 0 [.int h, .int b, .null] [] 128 gm_RF im lm = some (some (.int (sMix h b)), 128, gm_RF, im, lm) := by
  have n1 : Value.category .null = 1 := rfl
  simp (decide := true) only [QX11_stirred, gm_cat_i, n1, if_true, if_false, sMix]
theorem C_lotOfTen (s w : Int32) (im : gm_I) (lm : gm_L) : gm_den 162 0 [.int s, .int w, .null] [] 128 gm_RF im lm = some (some (.int (sLot s w)), 128, gm_RF, im, lm) := by
  have n1 : Value.category .null = 1 := rfl
  simp (decide := true) only [QX11_lotOfTen, C_stirred, gm_cont_i, gm_cat_i, n1, if_true, if_false, sLot]
theorem M_mixed (h b : Int32) (im : gm_I) (lm : gm_L) : gm_den 208 0 [.int h, .int b, .null] [] 128 gm_RF im lm = some (some (.int (sMix h b)), 128, gm_RF, im, lm) := by
  have n1 : Value.category .null = 1 := rfl
  simp (decide := true) only [QX12_mixed, gm_cat_i, n1, if_true, if_false, sMix]
/-- whether one slips by a seed -/
def sSl (B : gm_I) (seed da : Int32) (a : Nat) : Bool := decide (sLot seed (16 * da + nI a) < B 12 (4 * a + 2))
theorem M_slips {B im : gm_I} {l nm nk nj ns : Nat} (hR : iRoll B l nm nk nj ns) (ho : Off B im) (lm : gm_L) {a : Nat} (ha : a < nm) : gm_den 209 0 [.ref 84, .int (nI a)] [] 128 gm_RF im lm = some (some (.int (b32 (sSl B (im 84 51) (im 117 75) a))), 128, gm_RF, im, lm) := by
  have hm7 := iR_nm hR
  have h97 : im 97 (7 * l + a) = B 12 (4 * a + 2) := by rw [ho.1 97 rfl]; exact (iR_man hR ha).2.2.1
  have hcond : ∀ x y : Int32, (if y ≤ x then (0 : Int32) else 1) = b32 (decide (x < y)) := fun x y => by
    by_cases h : x < y
    · rw [if_neg (Int32.not_le.mpr h)]; simp [h, b32]
    · rw [if_pos (Int32.not_lt.mp h)]; simp [h, b32]
  simp (decide := true) only [QX12_slips, i75, ixr7 a (show a < 7 by omega), iR_18 hR ho, ix7 l a (iR_l hR) (show a < 7 by omega), M_mixed, gm_cont_i, if_true, if_false, h97]
  unfold sSl sLot
  by_cases h : B 12 (4 * a + 2) ≤ (((sMix (sMix (im 84 51) 65) (16 * im 117 75 + nI a)).toUInt32 >>> (Int32.toUInt32 1 &&& Int32.toUInt32 31)).toInt32) - (((sMix (sMix (im 84 51) 65) (16 * im 117 75 + nI a)).toUInt32 >>> (Int32.toUInt32 1 &&& Int32.toUInt32 31)).toInt32) / 10 * 10
  · have h2 := Int32.not_lt.mpr h
    simp [h, h2, b32, nb0]
  · have h2 := Int32.not_le.mp h
    simp [h, h2, b32, nb1]
section
variable {B : gm_I} {l nm nk nj ns : Nat}
theorem C_seeds_in (hR : iRoll B l nm nk nj ns) (f : Nat → Bool) (im : gm_I) (lm : gm_L) (ho : Off B im) (h4 : im 71 4 = nI (gc f nm)) (h72 : ∀ i, i < gc f nm → im 72 i = nI (wh f nm i)) (x1 x2 x3 sd : Int32) : ∀ (w i : Nat) (x8 : Value), i + w = gc f nm → x8.category = 1 → ∃ x8', x8'.category = 1 ∧ gm_den 24 31 [.ref 71, .int x1, .int x2, .int x3, .int sd, .long (sL (fun i => if sSl B sd (im 71 5) (wh f nm i) then lm 74 i else lm 73 i) i), .null, .int (nI i), x8] [] 128 gm_RF im lm = gm_den 24 117 [.ref 71, .int x1, .int x2, .int x3, .int sd, .long (sL (fun i => if sSl B sd (im 71 5) (wh f nm i) then lm 74 i else lm 73 i) (gc f nm)), .null, .int (nI (gc f nm)), x8'] [] 128 gm_RF im lm := by
  have hle := gc_le f nm
  have hm7 := iR_nm hR
  intro w
  induction w with
  | zero =>
    intro i x8 hw c8
    have : i = gc f nm := by omega
    subst this
    refine ⟨x8, c8, ?_⟩
    rw [LX0_fallsBySeeds_31]
    simp only [QX0_fallsBySeeds, h4, nI_le (Nat.le_refl (gc f nm)) (show gc f nm < 2 ^ 31 by omega), if_true]
  | succ w ih =>
    intro i x8 hw c8
    obtain ⟨hw1, -, -⟩ := wh_ok f (show i < gc f nm by omega)
    have hlt : ¬ nI (gc f nm) ≤ nI i := nI_ge (by omega) (by omega)
    obtain ⟨x8', c8', ih1⟩ := ih (i + 1) (.int (b32 (sSl B sd (im 71 5) (wh f nm i)))) (by omega) rfl
    refine ⟨x8', c8', ?_⟩
    have hsl := C_slipOf (wh f nm i) im lm (by omega)
    rw [ho.1 12 rfl] at hsl
    rw [← ih1, LX0_fallsBySeeds_31]
    simp only [sL]
    by_cases h : sLot sd (16 * im 71 5 + nI (wh f nm i)) < B 12 (4 * wh f nm i + 2)
    · have hs : sSl B sd (im 71 5) (wh f nm i) = true := by simp [sSl, h]
      have h2 := Int32.not_le.mpr h
      simp (decide := true) only [QX0_fallsBySeeds, h4, hlt, if_false, if_true, i7 i (show i < 7 by omega), h72 i (by omega), C_lotOfTen, hsl, gm_cont_i, h2, gm_cat_i, hs, b32, c8, nI_a1]
    · have hs : sSl B sd (im 71 5) (wh f nm i) = false := by simp [sSl, h]
      have h2 := Int32.not_lt.mp h
      simp (decide := true) only [QX0_fallsBySeeds, h4, hlt, if_false, if_true, i7 i (show i < 7 by omega), h72 i (by omega), C_lotOfTen, hsl, gm_cont_i, h2, gm_cat_i, hs, b32, c8, nI_a1]
def cntF (side : Int32) (fl : Nat → Option Nat) (x k : Nat) : Nat := if eO (fl k) = side then x + 1 else x
theorem cntF_le (side : Int32) (fl : Nat → Option Nat) (n : Nat) : fI (cntF side fl) 0 n ≤ n := by
  induction n with
  | zero => exact Nat.le_refl _
  | succ n ih => simp only [fI]; unfold cntF at *; split <;> omega
theorem C_seeds_loop (hR : iRoll B l nm nk nj ns) (m da : Int32) (im : gm_I) (lm : gm_L) (ho : Off B im) (hd : dW (cSpk B m) nm da im) (v0 v1 : Nat → Nat → Int32) (h0 : dE (cSpk B m) nm (fun b => ent B nj (v0 b)) (lm 73)) (h1 : dE (cSpk B m) nm (fun b => ent B nj (v1 b)) (lm 74)) (hp0 : ∀ a, a < nm → cSpk B m a = true → pOk (v0 a)) (hp1 : ∀ a, a < nm → cSpk B m a = true → pOk (v1 a)) (side : Int32) (sd n : Nat) (hsd : B 11 1 = nI sd) (hsd2 : sd ≤ 9999) (hn : n ≤ 20) : ∀ (w k : Nat) (x5 x6 x7 x8 : Value), k + w = n → x8.category = 1 → gm_den 24 11 [.ref 71, .int side, .int (nI n), .int (nI (fI (cntF side (fun k => vFall B nj (cSpk B m) nm (fun a => if sSl B (nI (sd + k)) da a then v1 a else v0 a))) 0 k)), .int (nI (sd + k)), x5, x6, x7, x8] [] 128 gm_RF im lm = some (some (.int (nI (fI (cntF side (fun k => vFall B nj (cSpk B m) nm (fun a => if sSl B (nI (sd + k)) da a then v1 a else v0 a))) 0 n))), 128, gm_RF, im, lm) := by
  have h11 : im 11 1 = nI sd := by rw [ho.1 11 rfl]; exact hsd
  have hnj := iR_nj hR
  have hm7 := iR_nm hR
  intro w
  induction w with
  | zero =>
    intro k x5 x6 x7 x8 hw c8
    have : k = n := by omega
    subst this
    rw [LX0_fallsBySeeds_11]
    simp only [QX0_fallsBySeeds, h11, nI_add, nI_le (Nat.le_refl (sd + k)) (show sd + k < 2 ^ 31 by omega), if_true]
  | succ w ih =>
    intro k x5 x6 x7 x8 hw c8
    have hlt : ¬ nI (sd + n) ≤ nI (sd + k) := nI_ge (by omega) (by omega)
    obtain ⟨x8', c8', hin⟩ := C_seeds_in hR (cSpk B m) im lm ho hd.1 hd.2.2 side (nI n) (nI (fI (cntF side (fun k => vFall B nj (cSpk B m) nm (fun a => if sSl B (nI (sd + k)) da a then v1 a else v0 a))) 0 k)) (nI (sd + k)) (gc (cSpk B m) nm) 0 x8 (by omega) c8
    have hbag : sL (fun i => if sSl B (nI (sd + k)) (im 71 5) (wh (cSpk B m) nm i) then lm 74 i else lm 73 i) (gc (cSpk B m) nm) = bag (vSu B nj (cSpk B m) nm (fun a => if sSl B (nI (sd + k)) da a then v1 a else v0 a) 255) (vNu (cSpk B m) nm (fun a => if sSl B (nI (sd + k)) da a then v1 a else v0 a)) := by
      rw [← ent_gL hnj]
      · rw [← sL_wh]
        apply sL_ext
        intro i hi
        rw [hd.2.1]
        by_cases hb : sSl B (nI (sd + k)) da (wh (cSpk B m) nm i) = true
        · simp only [hb, if_true]; exact h1 i hi
        · simp only [hb]; exact h0 i hi
      · intro a ha hf
        by_cases hb : sSl B (nI (sd + k)) da a = true
        · simp only [hb, if_true]; exact hp1 a ha hf
        · simp only [hb]; exact hp0 a ha hf
    rw [hbag] at hin
    have hwin := C_winner (vLanes hnj (cSpk B m) hm7 (fun a => if sSl B (nI (sd + k)) da a then v1 a else v0 a) (B := B)) im lm .null
    have e0 : gm_den 24 11 [.ref 71, .int side, .int (nI n), .int (nI (fI (cntF side (fun k => vFall B nj (cSpk B m) nm (fun a => if sSl B (nI (sd + k)) da a then v1 a else v0 a))) 0 k)), .int (nI (sd + k)), x5, x6, x7, x8] [] 128 gm_RF im lm = gm_den 24 31 [.ref 71, .int side, .int (nI n), .int (nI (fI (cntF side (fun k => vFall B nj (cSpk B m) nm (fun a => if sSl B (nI (sd + k)) da a then v1 a else v0 a))) 0 k)), .int (nI (sd + k)), .long (sL (fun i => if sSl B (nI (sd + k)) (im 71 5) (wh (cSpk B m) nm i) then lm 74 i else lm 73 i) 0), .null, .int (nI 0), x8] [] 128 gm_RF im lm := by
      rw [LX0_fallsBySeeds_11]
      simp (decide := true) only [QX0_fallsBySeeds, h11, nI_add, hlt, if_false, if_true, gm_cat_i, c8]
      rfl
    rw [e0, hin]
    have ih1 := fun x5 x6 x7 => ih (k + 1) x5 x6 x7 x8' (by omega) c8'
    simp only [fI] at ih1
    generalize hX : fI (cntF side (fun k => vFall B nj (cSpk B m) nm (fun a => if sSl B (nI (sd + k)) da a then v1 a else v0 a))) 0 k = X at *
    generalize fI (cntF side (fun k => vFall B nj (cSpk B m) nm (fun a => if sSl B (nI (sd + k)) da a then v1 a else v0 a))) 0 n = Z at *
    by_cases hc : eO (vFall B nj (cSpk B m) nm (fun a => if sSl B (nI (sd + k)) da a then v1 a else v0 a)) = side
    · have e : cntF side (fun k => vFall B nj (cSpk B m) nm (fun a => if sSl B (nI (sd + k)) da a then v1 a else v0 a)) X k = X + 1 := by simp only [cntF, hc, if_true]
      rw [e] at ih1
      have hc' : eO (gw (vSu B nj (cSpk B m) nm (fun a => if sSl B (nI (sd + k)) da a then v1 a else v0 a) 255) (vNu (cSpk B m) nm (fun a => if sSl B (nI (sd + k)) da a then v1 a else v0 a)) 3) = side := hc
      simp (decide := true) only [QX0_fallsBySeeds, hwin, gm_cont_i, hc', if_false, nI_a1, Nat.add_assoc]
      exact ih1 _ _ _
    · have e : cntF side (fun k => vFall B nj (cSpk B m) nm (fun a => if sSl B (nI (sd + k)) da a then v1 a else v0 a)) X k = X := by simp only [cntF, hc, if_false]
      rw [e] at ih1
      have hc' : ¬ eO (gw (vSu B nj (cSpk B m) nm (fun a => if sSl B (nI (sd + k)) da a then v1 a else v0 a) 255) (vNu (cSpk B m) nm (fun a => if sSl B (nI (sd + k)) da a then v1 a else v0 a)) 3) = side := hc
      simp (decide := true) only [QX0_fallsBySeeds, hwin, gm_cont_i, hc', if_true, nI_a1, Nat.add_assoc]
      exact ih1 _ _ _
theorem C_fallsBySeeds (hR : iRoll B l nm nk nj ns) {m da : Int32} {im : gm_I} (lm : gm_L) (ho : Off B im) (hd : dW (cSpk B m) nm da im) (v0 v1 : Nat → Nat → Int32) (h0 : dE (cSpk B m) nm (fun b => ent B nj (v0 b)) (lm 73)) (h1 : dE (cSpk B m) nm (fun b => ent B nj (v1 b)) (lm 74)) (hp0 : ∀ a, a < nm → cSpk B m a = true → pOk (v0 a)) (hp1 : ∀ a, a < nm → cSpk B m a = true → pOk (v1 a)) (side : Int32) {sd n : Nat} (hsd : B 11 1 = nI sd) (hsd2 : sd ≤ 9999) (hn : n ≤ 20) : gm_den 24 0 [.ref 71, .int side, .int (nI n), .null, .null, .null, .null, .null, .null] [] 128 gm_RF im lm = some (some (.int (nI (fI (cntF side (fun k => vFall B nj (cSpk B m) nm (fun a => if sSl B (nI (sd + k)) da a then v1 a else v0 a))) 0 n))), 128, gm_RF, im, lm) := by
  have h := C_seeds_loop hR m da im lm ho hd v0 v1 h0 h1 hp0 hp1 side sd n hsd hsd2 hn n 0 .null .null .null .null (by omega) rfl
  have h11 : im 11 1 = nI sd := by rw [ho.1 11 rfl]; exact hsd
  have n1 : Value.category .null = 1 := rfl
  simp only [QX0_fallsBySeeds, gm_cat_i, gm_cat_r, n1, h11]
  exact h
end
