/-! session -/
section
variable {B : gm_I} {l nm nk nj ns : Nat}
def heC (B : gm_I) (nj : Nat) (f : Nat → Bool) : Nat → Nat → Int32 := heaF (B 22) f (fun a => vPy B nj (heV B a) (B 22 (10 * a + 2))) (fun a => vGd B (heV B a)) (fun a => b32 (sSl B (B 11 1) (B 22 75) a))
theorem C_sess_loop (hR : iRoll B l nm nk nj ns) (h0 : nj ≠ 0) {m : Nat} (hm : m < 5) (hp : ∀ a, a < nm → cSpk B (nI m) a = true → pOk (heV B a)) (lm : gm_L) : ∀ (w a : Nat) (im : gm_I), a + w = nm → Fr [19, 22, 69, 70] B im → im 22 = heC B nj (cSpk B (nI m)) a → ∃ im', gm_den 122 60 [.ref 0, .int (nI m), .long (gL (cSpk B (nI m)) (fun a => ent B nj (heV B a)) a), .null, .int (nI a)] [] 128 gm_RF im lm = some (some (.int (eO (vFall B nj (cSpk B (nI m)) nm (heV B)))), 128, gm_RF, im', lm) ∧ Fr [19, 22, 69, 70] B im' ∧ im' 22 = upd (upd (heC B nj (cSpk B (nI m)) nm) (70 + m) (eO (vFall B nj (cSpk B (nI m)) nm (heV B)))) 75 (B 22 75 + 1) := by
  have hm7 := iR_nm hR
  have hn8 := iR_nj hR
  have n1 : Value.category .null = 1 := rfl
  intro w
  induction w with
  | zero =>
    intro a im hw hF h22
    have : a = nm := by omega
    subst this
    have e11 : im 11 = B 11 := hF 11 (by decide)
    have hmen : im 11 2 = nI a := by rw [e11]; exact iR_112 hR (Off.rf B)
    obtain ⟨-, -, s3⟩ := heaF_ok (B 22) (cSpk B (nI m)) (fun a => vPy B nj (heV B a) (B 22 (10 * a + 2))) (fun a => vGd B (heV B a)) (fun a => b32 (sSl B (B 11 1) (B 22 75) a)) a (by omega)
    have e75 : im 22 75 = B 22 75 := by rw [h22]; exact s3 75 (by decide) (by decide)
    refine ⟨gm_up (gm_up im 22 (70 + m) (eO (vFall B nj (cSpk B (nI m)) a (heV B)))) 22 75 (im 22 75 + 1), ?_, (hF.up (by simp)).up (by simp), ?_⟩
    · rw [ent_gL hn8 hp, LX11_session_60]
      simp (decide := true) only [QX11_session, hmen, nI_le (Nat.le_refl a) (show a < 2 ^ 31 by omega), if_true, C_winner (vLanes hn8 (cSpk B (nI m)) hm7 (heV B)) im lm .null, gm_cont_i, gm_cont_v, gm_cat_i, C_fall m _ im lm hm]
      rfl
    · rw [gu_upd, gu_upd, h22, ← h22, e75]
  | succ w ih =>
    intro a im hw hF h22
    have ha : a < nm := by omega
    have ha7 : a < 7 := by omega
    have e11 : im 11 = B 11 := hF 11 (by decide)
    have e12 : im 12 = B 12 := hF 12 (by decide)
    have hmen : im 11 2 = nI nm := by rw [e11]; exact iR_112 hR (Off.rf B)
    have hlt : ¬ nI nm ≤ nI a := nI_ge (by omega) (by omega)
    obtain ⟨s1, -, s3⟩ := heaF_ok (B 22) (cSpk B (nI m)) (fun a => vPy B nj (heV B a) (B 22 (10 * a + 2))) (fun a => vGd B (heV B a)) (fun a => b32 (sSl B (B 11 1) (B 22 75) a)) a (by omega)
    have own : ∀ k, k < 10 → im 22 (10 * a + k) = B 22 (10 * a + k) := fun k hk => by
      rw [h22]
      exact (s1 a ha7 k hk).trans (if_neg (by omega))
    have e75 : im 22 75 = B 22 75 := by rw [h22]; exact s3 75 (by decide) (by decide)
    have hg := C_get a im lm ha7
    cases hf : cSpk B (nI m) a with
    | false =>
      have hne : ¬ B 22 (10 * a + 3) = nI m := by simpa [cSpk] using hf
      obtain ⟨im', h1, h2⟩ := ih (a + 1) im (by omega) hF (by rw [h22]; simp only [heC, heaF, hf]; rfl)
      refine ⟨im', ?_, h2⟩
      rw [← h1, LX11_session_60]
      simp (decide := true) only [QX11_session, hmen, hlt, if_true, if_false, hg, gm_cont_i, own 3 (by decide), hne, nI_a1, gL, hf]
    | true =>
      have heq : B 22 (10 * a + 3) = nI m := by simpa [cSpk] using hf
      have hRi : iRoll im l nm nk nj ns := iRoll_eq (fun q hq => hF q (by simp; omega)) (by rw [hF 84 (by decide)]) hR
      obtain ⟨im1, h1, F1, r1⟩ := C_hear hRi (Off.rf im) h0 ha lm
      have hq : ∀ q, 14 ≤ q ∧ q ≤ 18 → im q = B q := fun q hq => hF q (by simp; omega)
      have hok : cLawsOk B := hR.2.2.2.2.2.2.1
      have ev : upd (cV im a) 6 (b32 (sSl im (im 11 1) (im 22 75) a)) = heV B a := by
        unfold heV
        rw [cV_rows e11 e12 own e75, sSl_rows e12, e11, e75]
      rw [ev, ent_rows hok hq] at h1
      rw [ev, vPy_rows hok hq, vGd_rows hok hq, own 2 (by decide), sSl_rows e12, e11, e75] at r1
      obtain ⟨im', g1, g2⟩ := ih (a + 1) im1 (by omega) (hF.tr F1) (by rw [r1, h22]; simp only [heC, heaF, hf]; rfl)
      refine ⟨im', ?_, g2⟩
      rw [← g1, LX11_session_60]
      simp (decide := true) only [QX11_session, hmen, hlt, if_true, if_false, hg, gm_cont_i, gm_cont_l, own 3 (by decide), heq, not_true_eq_false, h1, nI_a1, gL, hf, n1]
end
