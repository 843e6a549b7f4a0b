/-! year -/
def ys (B : gm_I) (nm m : Nat) : Bool := decide (gM (cSpk B (nI m)) nm ≠ 0)
def yD (B : gm_I) (nm : Nat) : Nat → Int32
  | 0 => B 22 75
  | m + 1 => if ys B nm m then yD B nm m + 1 else yD B nm m
def yF (B : gm_I) (nj nm sd m k : Nat) : Option Nat := vFall B nj (cSpk B (nI m)) nm (fun a => if sSl B (nI (sd + k)) (yD B nm m) a then upd (dV B (yD B nm m) a) 6 1 else dV B (yD B nm m) a)
def yC (B : gm_I) (nj nm sd s n : Nat) : Nat → Int32
  | 0 => 0
  | m + 1 => if ys B nm m then yC B nj nm sd s n m + B 13 (3 * m + s) * nI (fI (cntF (nI s) (yF B nj nm sd m)) 0 n) else yC B nj nm sd s n m
section
variable {B : gm_I} {l nm nk nj ns : Nat}
theorem C_year_loop (hR : iRoll B l nm nk nj ns) (hr : rRel (B 22) (B 116) nm nk ns) {s n sd : Nat} (hs : s < 3) (hn : n ≤ 20) (hsd : B 11 1 = nI sd) (hsd2 : sd ≤ 9999) : ∀ (w m : Nat) (im : gm_I) (lm : gm_L), m + w = nk → Off B im → ∃ im' lm', gm_den 137 35 [.ref 0, .int (nI s), .int (nI n), .int (yC B nj nm sd s n m), .int (yD B nm m), .int (nI m)] [] 128 gm_RF im lm = some (some (.int (yC B nj nm sd s n nk)), 128, gm_RF, im', lm') ∧ Off B im' ∧ LK lm lm' := by
  have hm7 := iR_nm hR
  have hk5 := iR_nk hR
  have n1 : Value.category .null = 1 := rfl
  intro w
  induction w with
  | zero =>
    intro m im lm hw ho
    have : m = nk := by omega
    subst this
    refine ⟨im, lm, ?_, ho, LK.rf lm⟩
    rw [LX11_year_35]
    simp only [QX11_year, iR_113 hR ho, nI_le (Nat.le_refl m) (show m < 2 ^ 31 by omega), if_true]
  | succ w ih =>
    intro m im lm hw ho
    have hlt : ¬ nI nk ≤ nI m := nI_ge (by omega) (by omega)
    have hco := C_speakersOn hR ho (nI m) lm
    have hlt2 : gM (cSpk B (nI m)) nm < 256 := by
      have := gM_lt (cSpk B (nI m)) nm
      have h2 : 2 ^ nm ≤ 2 ^ 7 := Nat.pow_le_pow_right (by decide) hm7
      omega
    by_cases hg : gM (cSpk B (nI m)) nm = 0
    · have hys : ys B nm m = false := by simp [ys, hg]
      rw [hg] at hco
      obtain ⟨im', lm', h1, h2⟩ := ih (m + 1) im lm (by omega) ho
      refine ⟨im', lm', ?_, h2⟩
      rw [← h1, LX11_year_35]
      simp (decide := true) only [QX11_year, iR_113 hR ho, hlt, if_true, if_false, hco, gm_cont_i, nI_0, nI_a1, yC, yD, hys]
    · have hys : ys B nm m = true := by simp [ys, hg]
      have hne : ¬ nI (gM (cSpk B (nI m)) nm) = 0 := nI_ne0 (by omega) (by omega)
      obtain ⟨im1, lm1, g1, o1, d1, e1, F1, -⟩ := C_gather hR ho (nI m) (yD B nm m) lm
      obtain ⟨im2, lm2, g2, o2, d2, e2, F2, -⟩ := C_turnBySlip hR o1 d1 lm1
      have hpk : ∀ a, a < nm → cSpk B (nI m) a = true → pOk (dV B (yD B nm m) a) := fun a ha _ => pOk_eq (by unfold dV; rw [upd_ne _ _ (by decide)]) (cV_pOk hR hr ha)
      have hpk1 : ∀ a, a < nm → cSpk B (nI m) a = true → pOk (upd (dV B (yD B nm m) a) 6 1) := fun a ha h => pOk_eq (by rw [upd_ne _ _ (by decide)]) (hpk a ha h)
      have e1' : dE (cSpk B (nI m)) nm (fun b => ent B nj (dV B (yD B nm m) b)) (lm2 73) := by rw [F2 73 (by decide)]; exact e1
      have e2' : dE (cSpk B (nI m)) nm (fun b => ent B nj (upd (dV B (yD B nm m) b) 6 1)) (lm2 74) := e2
      have hf := C_fallsBySeeds hR lm2 o2 d2 _ _ e1' e2' hpk hpk1 (nI s) hsd hsd2 hn
      have hw13 : im2 13 = B 13 := o2.1 13 rfl
      obtain ⟨im', lm', h1, h2, h3⟩ := ih (m + 1) im2 lm2 (by omega) o2
      refine ⟨im', lm', ?_, h2, ((F1.lk (by decide) (by decide)).tr (F2.lk (by decide) (by decide))).tr h3⟩
      rw [← h1, LX11_year_35]
      simp (decide := true) only [QX11_year, iR_113 hR ho, hlt, if_true, if_false, hco, gm_cont_i, gm_cont_v, hne, g1, g2, C_worthOf m s im2 lm2 (show m < 5 by omega) hs, hw13, hf, gm_cat_i, nI_a1, yC, yD, hys]
      rfl
end
