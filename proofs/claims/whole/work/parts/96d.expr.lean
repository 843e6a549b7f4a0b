/-! the reference reads an expression -/
theorem rK_var : ∀ k : Fin 148, kOk k.val = true → (139 ≤ k.val → rK k.val = k.val - 108) ∧ (k.val < 139 → rK k.val < 31) := by decide
section
variable {K V P W : Nat → Nat} {M : Nat}
theorem M_unitB {im : gm_I} {lm : gm_L} (h : pB K P im) : gm_den 198 0 [.ref 84] [] 128 gm_RF im lm = some (none, 128, gm_RF, im, lm) := by
  have e := (pB_ne h).1
  simp (decide := true) only [QX12_unit, M_isB h, gm_cont_i, if_true, e, not_false_eq_true, M_failB h, gm_cont_v]
theorem M_unitO {im : gm_I} {lm : gm_L} {t z c u : Nat} {L : LW} (hk : mTks im lm K V P W (M + 1)) (hc : cxP K M) (hok : okT K g0 t) (hp : pO im t) (hC : mCd im z L) (hcz : c ≤ z) (hz : z + L.cn < u) (h840 : u ≤ 840) (w3 : (gst K g0 t).w = 3) (n40 : ¬ K t = 40) (n136 : (gst K g0 t).sc = 0 → ¬ K t = 136) : ∃ im', gm_den 198 0 [.ref 84] [] 128 gm_RF im lm = some (none, 128, gm_RF, im', lm) ∧ Ck c u im im' ∧ im' 84 12 = im 84 12 ∧ ((gf (gst K g0 t) (K t) = 0 ∧ (K t = 2 ∨ 139 ≤ K t) ∧ okT K g0 (t + 1) ∧ pO im' (t + 1) ∧ mCd im' z (lwT L (K t) (V t))) ∨ pB K P im') := by
  have hi := M_isK hk hc hok hp (k := 2) rfl (c := 2) rfl
  have htM := okT_M hc hok
  obtain ⟨t1, t2, t3, t4⟩ := hk t (by omega)
  have hM := hc.1
  have d2 : gm_in (nI t) 403 = true := gm_in_nI (by omega) (by decide)
  have d3 : (nI t).toNatClampNeg = t := nI_clamp (by omega)
  have hkt := kOk_lt (hc.2.2.2 t)
  have hgE : ¬ gE K g0 t := gE_w (by omega)
  have hg : gf (gst K g0 t) (K t) = if K t = 136 then (if (gst K g0 t).sc = 0 then (if 4 ≤ (gst K g0 t).fi then 2 else 0) else 1) else if K t = 2 ∨ 139 ≤ K t then 0 else 1 := by
    unfold gf; rw [if_neg (by omega), if_neg (by omega), if_neg (by omega), if_pos w3, if_neg n40]
  have hrv := rK_var ⟨K t, hkt⟩ (hc.2.2.2 t)
  simp only [] at hrv
  by_cases k2 : K t = 2
  · rw [show (K t == 2) = true by simp [k2]] at hi
    have hf : gf (gst K g0 t) (K t) = 0 := by rw [hg, if_neg (by omega), if_pos (Or.inl k2)]
    have he := M_emit (lm := lm) hC.1 (by omega) 0 (nI (V t))
    obtain ⟨q1, q2⟩ := mCd_emit (c := c) (u := u) (e := (0, V t)) hC hcz hz
    have q1' : mCd (emM im (z + L.cn) 0 (nI (V t))) z (lwT L (K t) (V t)) := by unfold lwT; rw [if_pos k2]; exact q1
    have q2' : Ck c u im (emM im (z + L.cn) 0 (nI (V t))) := q2
    have hp' : pO (emM im (z + L.cn) 0 (nI (V t))) t := by
      unfold pO emM
      rw [gu_nk (by decide), gu_ne (by decide), gu_ne (by decide), gu_nk (by decide), gu_ne (by decide), gu_ne (by decide)]
      exact hp
    have h12 : emM im (z + L.cn) 0 (nI (V t)) 84 12 = im 84 12 := by unfold emM; rw [gu_nk (by decide), gu_ne (by decide), gu_ne (by decide)]
    have hk' : mTks (emM im (z + L.cn) 0 (nI (V t))) lm K V P W (M + 1) := by
      unfold mTks mTk1 emM
      rw [gu_row (by decide), gu_row (by decide), gu_row (by decide), gu_row (by decide), gu_row (by decide), gu_row (by decide), gu_row (by decide), gu_row (by decide), gu_row (by decide)]
      exact hk
    obtain ⟨J, g1, g2, g3⟩ := M_goes hk' hc hok hp' hgE hf
    refine ⟨J, ?_, q2'.tr g2.ck, by rw [g2.2 12 (by decide)]; exact h12, ?_⟩
    · simp (decide := true) only [QX12_unit, hi, gm_cont_i, b32_t, if_false, if_true, hp.1, d2, d3, t3 k2, he, gm_cont_v, g1]
    · rcases g3 with ⟨o1, o2⟩ | o
      · exact Or.inl ⟨hf, Or.inl k2, o1, o2, mCd_fr q1' (g2.2 41 (by decide)) (g2.2 45 (by decide)) (g2.1 113 (by decide)) (g2.1 111 (by decide)) (g2.1 112 (by decide))⟩
      · exact Or.inr o
  · rw [show (K t == 2) = false by simp [k2]] at hi
    by_cases k9 : 139 ≤ K t
    · have hr := hrv.1 k9
      have hf : gf (gst K g0 t) (K t) = 0 := by rw [hg, if_neg (by omega), if_pos (Or.inr k9)]
      rw [hr] at t1
      have u1 : ¬ nI (K t - 108) < 31 := nI_nlt (b := 31) (by omega) (by omega)
      have u2 : ¬ (39 : Int32) < nI (K t - 108) := nI_nlt (a := 39) (by omega) (by omega)
      have u3 : nI (K t - 108) - 31 = nI (K t - 139) := by rw [show (31 : Int32) = nI 31 from rfl, nI_sub (by omega), show K t - 108 - 31 = K t - 139 by omega]
      have he := M_emit (lm := lm) hC.1 (by omega) 1 (nI (K t - 139))
      obtain ⟨q1, q2⟩ := mCd_emit (c := c) (u := u) (e := (1, K t - 139)) hC hcz hz
      have q1' : mCd (emM im (z + L.cn) 1 (nI (K t - 139))) z (lwT L (K t) (V t)) := by unfold lwT; rw [if_neg k2, if_pos k9]; exact q1
      have q2' : Ck c u im (emM im (z + L.cn) 1 (nI (K t - 139))) := q2
      have hp' : pO (emM im (z + L.cn) 1 (nI (K t - 139))) t := by
        unfold pO emM
        rw [gu_nk (by decide), gu_ne (by decide), gu_ne (by decide), gu_nk (by decide), gu_ne (by decide), gu_ne (by decide)]
        exact hp
      have h12 : emM im (z + L.cn) 1 (nI (K t - 139)) 84 12 = im 84 12 := by unfold emM; rw [gu_nk (by decide), gu_ne (by decide), gu_ne (by decide)]
      have hk' : mTks (emM im (z + L.cn) 1 (nI (K t - 139))) lm K V P W (M + 1) := by
        unfold mTks mTk1 emM
        rw [gu_row (by decide), gu_row (by decide), gu_row (by decide), gu_row (by decide), gu_row (by decide), gu_row (by decide), gu_row (by decide), gu_row (by decide), gu_row (by decide)]
        exact hk
      obtain ⟨J, g1, g2, g3⟩ := M_goes hk' hc hok hp' hgE hf
      refine ⟨J, ?_, q2'.tr g2.ck, by rw [g2.2 12 (by decide)]; exact h12, ?_⟩
      · simp (decide := true) only [QX12_unit, hi, gm_cont_i, b32_f, if_false, if_true, hp.1, hp.2, d2, d3, t1, u1, u2, u3, he, gm_cont_v, g1, not_true_eq_false]
      · rcases g3 with ⟨o1, o2⟩ | o
        · exact Or.inl ⟨hf, Or.inr k9, o1, o2, mCd_fr q1' (g2.2 41 (by decide)) (g2.2 45 (by decide)) (g2.1 113 (by decide)) (g2.1 111 (by decide)) (g2.1 112 (by decide))⟩
        · exact Or.inr o
    · have hr := hrv.2 (by omega)
      have u1 : nI (rK (K t)) < 31 := nI_lt (b := 31) hr (by decide)
      have hf : gf (gst K g0 t) (K t) = 1 := by
        rw [hg]
        by_cases k6 : K t = 136
        · rw [if_pos k6, if_neg (fun h => n136 h k6)]
        · rw [if_neg k6, if_neg (by omega)]
      obtain ⟨J, g1, g2, g3⟩ := M_failO hk hc hok hp (foT_bad hok hgE hf (by decide)) (by decide) (by decide)
      have z1 : nI 1 = 1 := rfl
      rw [z1] at g1
      refine ⟨J, ?_, g2.ck, g2.2 12 (by decide), Or.inr g3⟩
      simp (decide := true) only [QX12_unit, hi, gm_cont_i, b32_f, if_false, if_true, hp.1, hp.2, d2, d3, t1, u1, g1, gm_cont_v, not_true_eq_false]
end
