/-! one tell of the reference: whichever -/
theorem rK_off : ∀ k : Fin 148, kOk k.val = true → (k.val < 128 ∨ 136 ≤ k.val) → rK k.val < 20 ∨ 28 ≤ rK k.val := by decide
theorem r40_off : ∀ r : Fin 40, (r.val < 20 ∨ 28 ≤ r.val) → ((nI r.val).toInt < 20 ∨ 27 < (nI r.val).toInt) ∧ ((nI r.val - 24 < 0) ∨ (¬ (nI r.val - 24 < 0) ∧ ¬ nI r.val ≤ 26)) := by decide
section
variable {K V P W : Nat → Nat} {M : Nat}
theorem M_tellOne (hx : tcx K V P W M) {s t : Nat} {im : gm_I} {lm : gm_L} (hs : s < 2) (h : pI K V P W M s im lm t) (hk3 : ¬ K t = 3) : ∃ im' lm', gm_den 186 0 [.ref 84, .null] [] 128 gm_RF im lm = some (none, 128, gm_RF, im', lm') ∧ mF s im im' ∧ Fr [92] lm lm' ∧ (pB K P im' ∨ ∃ t', t < t' ∧ pI K V P W M s im' lm' t') := by
  have hI := h
  obtain ⟨p1, p2, p3, p4, p5, p6, p7, p8, p9, p10, p11, p12⟩ := h
  have htM := okT_M hx.1 p1
  have hM := hx.1.1
  have c2 : gm_in (nI t) 403 = true := gm_in_nI (by omega) (by decide)
  have c3 : (nI t).toNatClampNeg = t := nI_clamp (by omega)
  have i2s : gm_in (nI s) 2 = true ∧ (nI s).toNatClampNeg = s := ⟨gm_in_nI hs (by decide), nI_clamp (by omega)⟩
  have hko := hx.1.2.2.2 t
  have hlt := kOk_lt hko
  have e87 := (p4 t (by omega)).1
  by_cases k8 : K t < 128 ∨ 136 ≤ K t
  · have hr := rK_off ⟨K t, hlt⟩ hko k8
    obtain ⟨a1, a2⟩ := r40_off ⟨rK (K t), rK_lt hko⟩ hr
    simp only [] at a1 a2
    have hg : gf (gst K g0 t) (K t) = 1 := by unfold gf; rw [if_pos p2, if_pos k8]
    obtain ⟨J, j1, j2, j3⟩ := M_failO p4 hx.1 p1 p3 (foT_bad p1 (gE_k hk3) hg (by decide)) (by decide) (by decide)
    have z1 : nI 1 = 1 := rfl
    rw [z1] at j1
    have e13 := (pB_ne j3).2
    have n1 : Value.category .null = 1 := rfl
    refine ⟨J, lm, ?_, Fo.mf j2 (by decide), Fr.rf _ _, Or.inl j3⟩
    have h0 : gm_den 186 0 [.ref 84, .null] [] 128 gm_RF im lm = gm_den 186 9 [.ref 84, .null] [.int (nI (rK (K t)))] 128 gm_RF im lm := by
      simp (decide := true) only [QX12_tellOne, p3.1, c2, c3, e87, if_true]
    have hd : gm_den 186 9 [.ref 84, .null] [.int (nI (rK (K t)))] 128 gm_RF im lm = gm_den 186 198 [.ref 84, .null] [] 128 gm_RF im lm := by
      simp (decide := true) only [QX12_tellOne, a1]
    rw [h0, hd]
    rcases a2 with a2 | ⟨a2, a3⟩
    · simp (decide := true) only [QX12_tellOne, p3.1, c2, c3, e87, if_true, if_false, a2, n1, e13, j1, gm_cont_v]
    · simp (decide := true) only [QX12_tellOne, p3.1, c2, c3, e87, if_true, if_false, a2, a3, n1, e13, j1, gm_cont_v]
  · by_cases k0 : K t = 128
    · have e : im 87 t = 20 := by rw [e87, k0]; rfl
      obtain ⟨im', q1, q2, q3⟩ := M_num hx hs hI (so := 0) (Or.inl rfl) k0 93 0 0 0 2 3 (by decide) (by decide) rfl rfl (Or.inl ⟨rfl, rfl⟩) (fun J0 J1 J2 r h1 h2 h3 h4 => by
        have z2 : nI 2 = 2 := rfl
        have z3 : nI 3 = 3 := rfl
        rw [z2, z3] at h3
        simp (decide := true) only [QX12_tellOne, p3.1, c2, c3, e, if_true, h1, gm_cont_v, h2, h3, gm_cont_i, i2s, h4])
      exact ⟨im', lm, q1, q2, Fr.rf _ _, q3⟩
    · by_cases k4 : K t = 132
      · have e : im 87 t = 27 := by rw [e87, k4]; rfl
        obtain ⟨im', q1, q2, q3⟩ := M_num hx hs hI (so := 4) (Or.inr rfl) k4 103 0 0 0 0 9999 (by decide) (by decide) rfl rfl (Or.inr ⟨rfl, rfl⟩) (fun J0 J1 J2 r h1 h2 h3 h4 => by
          have z2 : nI 0 = 0 := rfl
          have z3 : nI 9999 = 9999 := rfl
          rw [z2, z3] at h3
          simp (decide := true) only [QX12_tellOne, p3.1, c2, c3, e, if_true, h1, gm_cont_v, h2, h3, gm_cont_i, i2s, h4])
        exact ⟨im', lm, q1, q2, Fr.rf _ _, q3⟩
      · by_cases k1 : K t = 129
        · exact M_tMan hx hs hI k1
        · by_cases k2 : K t = 130
          · exact M_tMot hx hs hI k2
          · by_cases k3 : K t = 131
            · exact M_tJur hx hs hI k3
            · obtain ⟨im', q1, q2, q3⟩ := M_tLaw hx hs hI (k := K t - 133) (by omega) (by omega)
              exact ⟨im', lm, q1, q2, Fr.rf _ _, q3⟩
end
