/-! the reference's reading -/
theorem M_rpre {tb : Nat → Nat} {n l : Nat} {im : gm_I} {lm : gm_L} (hn : n ≤ 2000) (h2 : im 84 2 = nI n) (h85 : ∀ x, x < n → tb x < 256 ∧ im 85 x = byN (tb x)) (h18 : im 84 18 = nI l) (hl2 : l < 2) (hw : ∀ k, k < 20 → lm 91 k = Int64.ofNat (pkL 27 (cwd (kprm k)))) : ∃ D lm2 M, gm_den 182 0 [.ref 84, .null] [] 128 gm_RF im lm = gm_den 182 112 [.ref 84, .int (nI n)] [] 128 gm_RF D lm2 ∧ tcx (tkk tb n) (tkv tb n) (tkP tb n) (tkn tb n) M ∧ pI (tkk tb n) (tkv tb n) (tkP tb n) (tkn tb n) M (1 - l) D lm2 0 ∧ Fr [90] lm lm2 ∧ mR (1 - l) im D ∧ D 84 2 = 0 := by
  have hs : 1 - l < 2 := by omega
  obtain ⟨im1, q1, q2, q3⟩ := M_rcopy hn lm n 0 (gm_up im 84 4 (nI n)) (by omega) gu_eq (by rw [gu_row (by decide)]; exact h85) (fun x hx => absurd hx (Nat.not_lt_zero _))
  have hT : mTX (gm_up im1 84 2 0) tb n := ⟨hn, by rw [gu_nk (by decide), q2 84 (by decide), gu_eq], fun i hi => ⟨(h85 i hi).1, by rw [gu_row (by decide)]; exact q3 i hi⟩⟩
  obtain ⟨im2, lm2, M, c1, c2, c3, c4, c5⟩ := M_cut (lm := lm) hT hw
  have e18 : im2 84 18 = nI l := by rw [c3 18 (by decide), gu_nk (by decide), q2 84 (by decide), gu_nk (by decide)]; exact h18
  have hsub : (1 : Int32) - nI l = nI (1 - l) := by rw [show (1 : Int32) = nI 1 from rfl, nI_sub (by omega)]
  have m130 : (130 : Int32) * nI (1 - l) = nI (130 * (1 - l)) := by rw [show (130 : Int32) = nI 130 from rfl, nI_mul]
  have m420 : (420 : Int32) * nI (1 - l) = nI (420 * (1 - l)) := by rw [show (420 : Int32) = nI 420 from rfl, nI_mul]
  refine ⟨rdD im2 (1 - l), lm2, M, ?_, tcx_tk hn c5, rdD_pI hs c5.2.1, c4, ?_, ?_⟩
  · have e0 : gm_den 182 0 [.ref 84, .null] [] 128 gm_RF im lm = gm_den 182 10 [.ref 84, .int (nI 0)] [] 128 gm_RF (gm_up im 84 4 (nI n)) lm := by
      simp (decide := true) only [QX12_read, h2]; rfl
    have t18 : gm_up (gm_up (gm_up (gm_up im2 84 11 0) 84 12 0) 84 13 0) 84 15 0 84 18 = nI l := by
      rw [gu_nk (by decide), gu_nk (by decide), gu_nk (by decide), gu_nk (by decide)]; exact e18
    have t19 : rdT im2 (1 - l) 84 19 = nI (1 - l) := by unfold rdT; rw [gu_nk (by decide), gu_eq]
    have e2 : gm_den 182 36 [.ref 84, .int (nI n)] [] 128 gm_RF im1 lm = gm_den 182 85 [.ref 84, .int (nI n)] [.int (nI (1 - l)), .ref 84] 128 gm_RF (rdT im2 (1 - l)) lm2 := by
      have t19' := t19
      unfold rdT at t19'
      unfold rdT
      simp (decide := true) only [QX12_read, c1, gm_cont_v, t18, hsub, t19']
    rw [e0, q1, e2]
    have p19 : mPlain (rdT im2 (1 - l)) (1 - l) 84 19 = nI (1 - l) := by rw [(mPl_v hs _).2.2]; exact t19
    have p19' : gm_up (mPlain (rdT im2 (1 - l)) (1 - l)) 84 35 (nI (130 * (1 - l))) 84 19 = nI (1 - l) := by rw [gu_nk (by decide)]; exact p19
    unfold rdD
    simp (decide := true) only [QX12_read, M_plain hs, gm_cont_v, p19, m130, p19', m420]
  · have r1 : mR (1 - l) im (gm_up im 84 4 (nI n)) := mR.up _ _ (by decide)
    have r2 : mR (1 - l) (gm_up im 84 4 (nI n)) im1 := mR.fr (Fr.mo (K := [84, 86, 87, 88, 89]) q2 (by decide)) (fun j _ => by rw [q2 84 (by decide)])
    have r3 : mR (1 - l) im1 (gm_up im1 84 2 0) := mR.up _ _ (by decide)
    have r4 : mR (1 - l) (gm_up im1 84 2 0) im2 := mR.fr (Fr.mo (K := [84, 86, 87, 88, 89]) c2 (by decide)) c3
    exact (((r1.tr r2).tr r3).tr r4).tr (rdD_mr hs im2)
  · have h84 : rdD im2 (1 - l) 84 2 = im2 84 2 := by
      unfold rdD
      rw [gu_nk (by decide), gu_nk (by decide), (mPl_v hs _).2.2]
      unfold rdT
      rw [gu_nk (by decide), gu_nk (by decide), gu_nk (by decide), gu_nk (by decide), gu_nk (by decide), gu_nk (by decide)]
    rw [h84, c3 2 (by decide), gu_eq]
