/-! the reference's tells: motion, juror; written by wip/whole/gen_tell.py -/
section
variable {K V P W : Nat → Nat} {M : Nat}
theorem M_tellMotion (hx : tcx K V P W M) {im : gm_I} {lm : gm_L} {t s cnt : Nat} {A A' : TA} {w : Nat × Nat} (hs : s < 2) (hk : mTks im lm K V P W (M + 1)) (hok : okT K g0 (t + 1)) (hp : pO im (t + 1)) (hf : gFd K (t + 1) 1 3) (hw : wR im P w.1 w.2) (hw5 : w.1 ≤ 5) (hwt : ¬ w.1 = 0 → w.2 < t + 1) (hcnt : cnt < 20) (hn : nmR lm K W cnt (t + 1)) (h20 : im 84 20 = nI cnt) (h19 : im 84 19 = nI s) (hA : pA im V s A) (hnk : A.nk < 5) (e1 : A'.sd = A.sd) (e2 : A'.se = A.se) (e3 : A'.nm = A.nm) (e4 : A'.nk = A.nk + 1) (e5 : A'.nj = A.nj) (e6 : A'.mi = A.mi) (e7 : A'.ki = udN A.ki A.nk t) (e8 : A'.ji = A.ji) : ∃ im' lm', gm_den 191 0 [.ref 84, .null, .null, .null] [] 128 gm_RF im lm = some (none, 128, gm_RF, im', lm') ∧ TF s im im' ∧ Fr [92] lm lm' ∧ (pB K P im' ∨ (K (t + 1) = 1 ∧ K (t + 2) = 2 ∧ K (t + 3) = 2 ∧ K (t + 4) = 2 ∧ K (t + 5) = 59 ∧ okT K g0 (t + 6) ∧ (gst K g0 (t + 6)).w = 0 ∧ pO im' (t + 6) ∧ wR im' P (wrB V 0 99 (t + 4) (wrB V 0 99 (t + 3) (wrB V 0 99 (t + 2) (wrN K V (t + 1) w).1 (wrN K V (t + 1) w).2).1 (wrB V 0 99 (t + 2) (wrN K V (t + 1) w).1 (wrN K V (t + 1) w).2).2).1 (wrB V 0 99 (t + 3) (wrB V 0 99 (t + 2) (wrN K V (t + 1) w).1 (wrN K V (t + 1) w).2).1 (wrB V 0 99 (t + 2) (wrN K V (t + 1) w).1 (wrN K V (t + 1) w).2).2).2).1 (wrB V 0 99 (t + 4) (wrB V 0 99 (t + 3) (wrB V 0 99 (t + 2) (wrN K V (t + 1) w).1 (wrN K V (t + 1) w).2).1 (wrB V 0 99 (t + 2) (wrN K V (t + 1) w).1 (wrN K V (t + 1) w).2).2).1 (wrB V 0 99 (t + 3) (wrB V 0 99 (t + 2) (wrN K V (t + 1) w).1 (wrN K V (t + 1) w).2).1 (wrB V 0 99 (t + 2) (wrN K V (t + 1) w).1 (wrN K V (t + 1) w).2).2).2).2 ∧ im' 84 20 = nI (cnt + 1) ∧ lm' = gm_up lm 92 cnt (lm 90 (t + 1)) ∧ pA im' V s A')) := by
  have hM := hx.1.1
  have htM := okT_M hx.1 hok
  have n1 : Value.category .null = 1 := rfl
  have i2s : gm_in (nI s) 2 = true ∧ (nI s).toNatClampNeg = s := ⟨gm_in_nI hs (by decide), nI_clamp (by omega)⟩
  have ek : 5 * nI s + nI A.nk = nI (5 * s + A.nk) := by rw [show (5 : Int32) = nI 5 from rfl, nI_mul, nI_add]
  have ix : ∀ i, i < 3 → 3 * nI (5 * s + A.nk) + nI i = nI (3 * (5 * s + A.nk) + i) := fun i _ => by rw [show (3 : Int32) = nI 3 from rfl, nI_mul, nI_add]
  have x0 : 3 * nI (5 * s + A.nk) + 0 = nI (3 * (5 * s + A.nk) + 0) := ix 0 (by decide)
  have x1 : 3 * nI (5 * s + A.nk) + 1 = nI (3 * (5 * s + A.nk) + 1) := ix 1 (by decide)
  have x2 : 3 * nI (5 * s + A.nk) + 2 = nI (3 * (5 * s + A.nk) + 2) := ix 2 (by decide)
  have g30 : ∀ i, i < 3 → gm_in (nI (3 * (5 * s + A.nk) + i)) 30 = true ∧ (nI (3 * (5 * s + A.nk) + i)).toNatClampNeg = 3 * (5 * s + A.nk) + i := fun i hi => ⟨gm_in_nI (by omega) (by decide), nI_clamp (by omega)⟩
  have g0a := g30 0 (by decide)
  have g1a := g30 1 (by decide)
  have g2a := g30 2 (by decide)
  obtain ⟨⟨a1, a2, a3, a4, a5⟩, am, ak, aj⟩ := hA
  have hsx : ∀ i, i < 3 → s * sWd 100 ≤ 3 * (5 * s + A.nk) + i ∧ 3 * (5 * s + A.nk) + i < s * sWd 100 + sWd 100 := fun i hi => by
    have : sWd 100 = 15 := rfl
    rw [this]; omega
  obtain ⟨J0, n2, n3, n4⟩ := M_nm hx hk hok hp hf hw hw5 hwt (by omega) hn h20
  have hs0 : stgS K P J0 (t + 1 + 1) 3 (wrN K V (t + 1) w) ∨ pB K P J0 := by
    rcases n4 with ⟨-, h⟩ | h
    · exact Or.inl h
    · exact Or.inr h
  obtain ⟨J1, r1, b1, f1, s1⟩ := M_bd hx (Fo.tk n3 hk) hs0 (lo := 0) (hi := 99) (by decide) (by decide)
  have hs1 : stgS K P J1 (t + 2 + 1) 2 (wrB V 0 99 (t + 2) (wrN K V (t + 1) w).1 (wrN K V (t + 1) w).2) ∨ pB K P J1 := by
    rcases s1 with ⟨-, -, -, h⟩ | h
    · exact Or.inl h
    · exact Or.inr h
  let Q1 := gm_up J1 100 (3 * (5 * s + A.nk) + 0) r1
  have hkQ1 : mTks Q1 lm K V P W (M + 1) := gu_tk (by decide) (Fo.tk f1 (Fo.tk n3 hk))
  obtain ⟨J2, r2, b2, f2, s2⟩ := M_bd hx hkQ1 (stgS_up (by decide) hs1) (lo := 0) (hi := 99) (by decide) (by decide)
  have hs2 : stgS K P J2 (t + 3 + 1) 1 (wrB V 0 99 (t + 3) (wrB V 0 99 (t + 2) (wrN K V (t + 1) w).1 (wrN K V (t + 1) w).2).1 (wrB V 0 99 (t + 2) (wrN K V (t + 1) w).1 (wrN K V (t + 1) w).2).2) ∨ pB K P J2 := by
    rcases s2 with ⟨-, -, -, h⟩ | h
    · exact Or.inl h
    · exact Or.inr h
  let Q2 := gm_up J2 100 (3 * (5 * s + A.nk) + 1) r2
  have hkQ2 : mTks Q2 lm K V P W (M + 1) := gu_tk (by decide) (Fo.tk f2 hkQ1)
  obtain ⟨J3, r3, b3, f3, s3⟩ := M_bd hx hkQ2 (stgS_up (by decide) hs2) (lo := 0) (hi := 99) (by decide) (by decide)
  have hs3 : stgS K P J3 (t + 4 + 1) 0 (wrB V 0 99 (t + 4) (wrB V 0 99 (t + 3) (wrB V 0 99 (t + 2) (wrN K V (t + 1) w).1 (wrN K V (t + 1) w).2).1 (wrB V 0 99 (t + 2) (wrN K V (t + 1) w).1 (wrN K V (t + 1) w).2).2).1 (wrB V 0 99 (t + 3) (wrB V 0 99 (t + 2) (wrN K V (t + 1) w).1 (wrN K V (t + 1) w).2).1 (wrB V 0 99 (t + 2) (wrN K V (t + 1) w).1 (wrN K V (t + 1) w).2).2).2) ∨ pB K P J3 := by
    rcases s3 with ⟨-, -, -, h⟩ | h
    · exact Or.inl h
    · exact Or.inr h
  let Q3 := gm_up J3 100 (3 * (5 * s + A.nk) + 2) r3
  have hkQ3 : mTks Q3 lm K V P W (M + 1) := gu_tk (by decide) (Fo.tk f3 hkQ2)
  have T4 : TF s im Q3 := ((((((Fo.tf n3 (by decide)).tr (Fo.tf f1 (by decide))).tr (TF.up J1 r1 (by decide) (by decide) (hsx 0 (by decide)))).tr (Fo.tf f2 (by decide))).tr (TF.up J2 r2 (by decide) (by decide) (hsx 1 (by decide)))).tr (Fo.tf f3 (by decide))).tr (TF.up J3 r3 (by decide) (by decide) (hsx 2 (by decide)))
  have F84 : ∀ j, j ∉ [11, 13, 14, 15, 16] → Q3 84 j = im 84 j := fun j hj => by
    show gm_up J3 100 _ _ 84 j = _
    rw [gu_ne (by decide), f3.2 j hj]
    show gm_up J2 100 _ _ 84 j = _
    rw [gu_ne (by decide), f2.2 j hj]
    show gm_up J1 100 _ _ 84 j = _
    rw [gu_ne (by decide), f1.2 j hj, n3.2 j hj]
  have Q420 : Q3 84 20 = nI cnt := by rw [F84 20 (by decide)]; exact h20
  obtain ⟨J5, lm5, q1, q2, q3⟩ := M_en hx hkQ3 (stgS_up (by decide) hs3) (x := t + 1) htM hcnt Q420
  have R : ∀ q, q ≠ 84 → q ≠ 100 → J5 q = im q := fun q h0 h1 => by
    rw [q2.1 q h0]
    show gm_up J3 100 _ _ q = _
    rw [gu_row h1, f3.1 q h0]
    show gm_up J2 100 _ _ q = _
    rw [gu_row h1, f2.1 q h0]
    show gm_up J1 100 _ _ q = _
    rw [gu_row h1, f1.1 q h0, n3.1 q h0]
  have J519 : J5 84 19 = nI s := by rw [q2.2 19 (by decide), F84 19 (by decide)]; exact h19
  have J599 : J5 99 s = nI A.nk := by rw [R 99 (by decide) (by decide)]; exact a3
  have T5 : TF s im J5 := T4.tr (Fo.tf q2 (by decide))
  have hst : gm_den 191 0 [.ref 84, .null, .null, .null] [] 128 gm_RF im lm = gm_den 191 57 [.ref 84, .int (nI (5 * s + A.nk)), .int (nI (t + 1)), .int 3] [] 128 gm_RF J5 lm5 := by
    have z0 : nI 0 = 0 := rfl
    have z99 : nI 99 = 99 := rfl
    rw [z0, z99] at b1 b2 b3
    have st0 : gm_den 191 0 [.ref 84, .null, .null, .null] [] 128 gm_RF im lm = gm_den 191 24 [.ref 84, .int (nI (5 * s + A.nk)), .int (nI (t + 1)), .int 0] [] 128 gm_RF J0 lm := by
      simp (decide := true) only [QX12_tellMotion, h19, i2s, a3, ek, n1, if_true, n2, gm_cont_i]
    have st1 : gm_den 191 24 [.ref 84, .int (nI (5 * s + A.nk)), .int (nI (t + 1)), .int 0] [] 128 gm_RF J0 lm = gm_den 191 24 [.ref 84, .int (nI (5 * s + A.nk)), .int (nI (t + 1)), .int 1] [] 128 gm_RF Q1 lm := by
      rw [LX12_tellMotion_24]
      simp (decide := true) only [QX12_tellMotion, if_false, x0, b1, gm_cont_i, g0a, if_true]
      rfl
    have st2 : gm_den 191 24 [.ref 84, .int (nI (5 * s + A.nk)), .int (nI (t + 1)), .int 1] [] 128 gm_RF Q1 lm = gm_den 191 24 [.ref 84, .int (nI (5 * s + A.nk)), .int (nI (t + 1)), .int 2] [] 128 gm_RF Q2 lm := by
      rw [LX12_tellMotion_24]
      simp (decide := true) only [QX12_tellMotion, if_false, x1, b2, gm_cont_i, g1a, if_true]
      rfl
    have st3 : gm_den 191 24 [.ref 84, .int (nI (5 * s + A.nk)), .int (nI (t + 1)), .int 2] [] 128 gm_RF Q2 lm = gm_den 191 24 [.ref 84, .int (nI (5 * s + A.nk)), .int (nI (t + 1)), .int 3] [] 128 gm_RF Q3 lm := by
      rw [LX12_tellMotion_24]
      simp (decide := true) only [QX12_tellMotion, if_false, x2, b3, gm_cont_i, g2a, if_true]
      rfl
    rw [st0, st1, st2, st3, LX12_tellMotion_24]
    simp (decide := true) only [QX12_tellMotion, if_true, q1, gm_cont_v]
  rcases q3 with ⟨k5, o1, g0', o2, w5', h20', hlm, z3⟩ | ⟨hB, hlm⟩
  · have z3' : J3 84 13 = 0 := by rw [← z3]; exact (gu_ne (by decide)).symm
    rcases s3 with ⟨k4, v3, z2, -⟩ | hB
    · have z2' : J2 84 13 = 0 := by rw [← z2]; exact (gu_ne (by decide)).symm
      rcases s2 with ⟨k3, v2, z1, -⟩ | hB
      · have z1' : J1 84 13 = 0 := by rw [← z1]; exact (gu_ne (by decide)).symm
        rcases s1 with ⟨k2, v1, z0, -⟩ | hB
        · rcases n4 with ⟨k1, -⟩ | hB
          · have e13 : J5 84 13 = 0 := o2.2
            have r100 : ∀ y, J5 100 y = if y = 3 * (5 * s + A.nk) + 2 then nI (V (t + 4)) else if y = 3 * (5 * s + A.nk) + 1 then nI (V (t + 3)) else if y = 3 * (5 * s + A.nk) + 0 then nI (V (t + 2)) else im 100 y := fun y => by
              rw [q2.1 100 (by decide)]
              show gm_up J3 100 _ r3 100 y = _
              rw [v3]
              by_cases ey : y = 3 * (5 * s + A.nk) + 2
              · rw [if_pos ey, ey, gu_eq]
              · rw [if_neg ey, gu_nk ey, f3.1 100 (by decide)]
                show gm_up J2 100 _ r2 100 y = _
                rw [v2]
                by_cases ey2 : y = 3 * (5 * s + A.nk) + 1
                · rw [if_pos ey2, ey2, gu_eq]
                · rw [if_neg ey2, gu_nk ey2, f2.1 100 (by decide)]
                  show gm_up J1 100 _ r1 100 y = _
                  rw [v1]
                  by_cases ey3 : y = 3 * (5 * s + A.nk) + 0
                  · rw [if_pos ey3, ey3, gu_eq]
                  · rw [if_neg ey3, gu_nk ey3, f1.1 100 (by decide), n3.1 100 (by decide)]
            have hs99 : s * sWd 99 ≤ s ∧ s < s * sWd 99 + sWd 99 := by
              have : sWd 99 = 1 := rfl
              rw [this]; omega
            refine ⟨gm_up J5 99 s (nI (A.nk + 1)), lm5, ?_, T5.tr (TF.up J5 _ (by decide) (by decide) hs99), by rw [hlm]; exact Fr.up1 (by decide), Or.inr ⟨k1, k2, k3, k4, k5, o1, g0', ?_, ?_, ?_, hlm, ?_⟩⟩
            · rw [hst]
              simp (decide := true) only [QX12_tellMotion, e13, if_false, J519, i2s, if_true, J599, nI_a1, not_true_eq_false]
            · unfold pO; rw [gu_ne (by decide), gu_ne (by decide)]; exact o2
            · exact wR_fr w5' (gu_ne (by decide)) (gu_ne (by decide))
            · rw [gu_ne (by decide)]; exact h20'
            · unfold pA
              rw [e1, e2, e3, e4, e5, e6, e7, e8, gu_eq, gu_row (by decide), gu_row (by decide), gu_row (by decide), gu_row (by decide), gu_row (by decide), gu_row (by decide), gu_row (by decide), gu_row (by decide), gu_row (by decide), gu_row (by decide), R 93 (by decide) (by decide), R 94 (by decide) (by decide), R 95 (by decide) (by decide), R 96 (by decide) (by decide), R 97 (by decide) (by decide), R 98 (by decide) (by decide), R 101 (by decide) (by decide), R 102 (by decide) (by decide), R 103 (by decide) (by decide)]
              refine ⟨⟨a1, a2, rfl, a4, a5⟩, am, fun m i hm hi => ?_, aj⟩
              unfold udN
              by_cases ea : m = A.nk
              · rw [if_pos ea, ea, r100]
                rcases (by omega : i = 0 ∨ i = 1 ∨ i = 2) with rfl | rfl | rfl
                · rw [if_neg (by omega), if_neg (by omega), if_pos rfl]
                · rw [if_neg (by omega), if_pos rfl]
                · rw [if_pos rfl]
              · rw [if_neg ea, r100, if_neg (by omega), if_neg (by omega), if_neg (by omega)]
                exact ak m i (by omega) hi
          · exact absurd z0 (pB_ne hB).1
        · exact absurd z1' (pB_ne hB).1
      · exact absurd z2' (pB_ne hB).1
    · exact absurd z3' (pB_ne hB).1
  · subst hlm
    have e := (pB_ne hB).1
    refine ⟨J5, lm5, ?_, T5, Fr.rf _ _, Or.inl hB⟩
    rw [hst]
    simp (decide := true) only [QX12_tellMotion, e, if_true, not_false_eq_true]
theorem M_tellJuror (hx : tcx K V P W M) {im : gm_I} {lm : gm_L} {t s cnt : Nat} {A A' : TA} {w : Nat × Nat} (hs : s < 2) (hk : mTks im lm K V P W (M + 1)) (hok : okT K g0 (t + 1)) (hp : pO im (t + 1)) (hf : gFd K (t + 1) 1 1) (hw : wR im P w.1 w.2) (hw5 : w.1 ≤ 5) (hwt : ¬ w.1 = 0 → w.2 < t + 1) (hcnt : cnt < 20) (hn : nmR lm K W cnt (t + 1)) (h20 : im 84 20 = nI cnt) (h19 : im 84 19 = nI s) (hA : pA im V s A) (hnj : A.nj < 8) (e1 : A'.sd = A.sd) (e2 : A'.se = A.se) (e3 : A'.nm = A.nm) (e4 : A'.nk = A.nk) (e5 : A'.nj = A.nj + 1) (e6 : A'.mi = A.mi) (e7 : A'.ki = A.ki) (e8 : A'.ji = udN A.ji A.nj t) : ∃ im' lm', gm_den 192 0 [.ref 84, .null] [] 128 gm_RF im lm = some (none, 128, gm_RF, im', lm') ∧ TF s im im' ∧ Fr [92] lm lm' ∧ (pB K P im' ∨ (K (t + 1) = 1 ∧ K (t + 2) = 2 ∧ K (t + 3) = 59 ∧ okT K g0 (t + 4) ∧ (gst K g0 (t + 4)).w = 0 ∧ pO im' (t + 4) ∧ wR im' P (wrB V 0 2 (t + 2) (wrN K V (t + 1) w).1 (wrN K V (t + 1) w).2).1 (wrB V 0 2 (t + 2) (wrN K V (t + 1) w).1 (wrN K V (t + 1) w).2).2 ∧ im' 84 20 = nI (cnt + 1) ∧ lm' = gm_up lm 92 cnt (lm 90 (t + 1)) ∧ pA im' V s A')) := by
  have hM := hx.1.1
  have htM := okT_M hx.1 hok
  have n1 : Value.category .null = 1 := rfl
  have i2s : gm_in (nI s) 2 = true ∧ (nI s).toNatClampNeg = s := ⟨gm_in_nI hs (by decide), nI_clamp (by omega)⟩
  have ek : 8 * nI s + nI A.nj = nI (8 * s + A.nj) := by rw [show (8 : Int32) = nI 8 from rfl, nI_mul, nI_add]
  have g16 : gm_in (nI (8 * s + A.nj)) 16 = true ∧ (nI (8 * s + A.nj)).toNatClampNeg = 8 * s + A.nj := ⟨gm_in_nI (by omega) (by decide), nI_clamp (by omega)⟩
  obtain ⟨⟨a1, a2, a3, a4, a5⟩, am, ak, aj⟩ := hA
  have hsx : s * sWd 102 ≤ 8 * s + A.nj ∧ 8 * s + A.nj < s * sWd 102 + sWd 102 := by
    have : sWd 102 = 8 := rfl
    rw [this]; omega
  obtain ⟨J0, n2, n3, n4⟩ := M_nm hx hk hok hp hf hw hw5 hwt (by omega) hn h20
  have hs0 : stgS K P J0 (t + 1 + 1) 1 (wrN K V (t + 1) w) ∨ pB K P J0 := by
    rcases n4 with ⟨-, h⟩ | h
    · exact Or.inl h
    · exact Or.inr h
  obtain ⟨J1, r1, b1, f1, s1⟩ := M_bd hx (Fo.tk n3 hk) hs0 (lo := 0) (hi := 2) (by decide) (by decide)
  have hs1 : stgS K P J1 (t + 2 + 1) 0 (wrB V 0 2 (t + 2) (wrN K V (t + 1) w).1 (wrN K V (t + 1) w).2) ∨ pB K P J1 := by
    rcases s1 with ⟨-, -, -, h⟩ | h
    · exact Or.inl h
    · exact Or.inr h
  let Q1 := gm_up J1 102 (8 * s + A.nj) r1
  have hkQ1 : mTks Q1 lm K V P W (M + 1) := gu_tk (by decide) (Fo.tk f1 (Fo.tk n3 hk))
  have T4 : TF s im Q1 := ((Fo.tf n3 (by decide)).tr (Fo.tf f1 (by decide))).tr (TF.up J1 r1 (by decide) (by decide) hsx)
  have F84 : ∀ j, j ∉ [11, 13, 14, 15, 16] → Q1 84 j = im 84 j := fun j hj => by
    show gm_up J1 102 _ _ 84 j = _
    rw [gu_ne (by decide), f1.2 j hj, n3.2 j hj]
  have Q420 : Q1 84 20 = nI cnt := by rw [F84 20 (by decide)]; exact h20
  obtain ⟨J5, lm5, q1, q2, q3⟩ := M_en hx hkQ1 (stgS_up (by decide) hs1) (x := t + 1) htM hcnt Q420
  have R : ∀ q, q ≠ 84 → q ≠ 102 → J5 q = im q := fun q h0 h1 => by
    rw [q2.1 q h0]
    show gm_up J1 102 _ _ q = _
    rw [gu_row h1, f1.1 q h0, n3.1 q h0]
  have J519 : J5 84 19 = nI s := by rw [q2.2 19 (by decide), F84 19 (by decide)]; exact h19
  have J5101 : J5 101 s = nI A.nj := by rw [R 101 (by decide) (by decide)]; exact a4
  have T5 : TF s im J5 := T4.tr (Fo.tf q2 (by decide))
  have J019 : J0 84 19 = nI s := by rw [n3.2 19 (by decide)]; exact h19
  have J0101 : J0 101 s = nI A.nj := by rw [n3.1 101 (by decide)]; exact a4
  have hst : gm_den 192 0 [.ref 84, .null] [] 128 gm_RF im lm = gm_den 192 38 [.ref 84, .int (nI (t + 1))] [] 128 gm_RF J5 lm5 := by
    have z0 : nI 0 = 0 := rfl
    have z2 : nI 2 = 2 := rfl
    rw [z0, z2] at b1
    simp (decide := true) only [QX12_tellJuror, n1, if_true, n2, gm_cont_i, J019, i2s, J0101, ek, b1, g16]
    refine (congrArg _ q1).trans ?_
    simp (decide := true) only [QX12_tellJuror, gm_cont_v]
  rcases q3 with ⟨k3, o1, g0', o2, w5', h20', hlm, z1⟩ | ⟨hB, hlm⟩
  · have z1' : J1 84 13 = 0 := by rw [← z1]; exact (gu_ne (by decide)).symm
    rcases s1 with ⟨k2, v1, z0, -⟩ | hB
    · rcases n4 with ⟨k1, -⟩ | hB
      · have e13 : J5 84 13 = 0 := o2.2
        have r102 : ∀ y, J5 102 y = if y = 8 * s + A.nj then nI (V (t + 2)) else im 102 y := fun y => by
          rw [q2.1 102 (by decide)]
          show gm_up J1 102 _ r1 102 y = _
          rw [v1]
          by_cases ey : y = 8 * s + A.nj
          · rw [if_pos ey, ey, gu_eq]
          · rw [if_neg ey, gu_nk ey, f1.1 102 (by decide), n3.1 102 (by decide)]
        have hs101 : s * sWd 101 ≤ s ∧ s < s * sWd 101 + sWd 101 := by
          have : sWd 101 = 1 := rfl
          rw [this]; omega
        refine ⟨gm_up J5 101 s (nI (A.nj + 1)), lm5, ?_, T5.tr (TF.up J5 _ (by decide) (by decide) hs101), by rw [hlm]; exact Fr.up1 (by decide), Or.inr ⟨k1, k2, k3, o1, g0', ?_, ?_, ?_, hlm, ?_⟩⟩
        · rw [hst]
          simp (decide := true) only [QX12_tellJuror, e13, if_false, J519, i2s, if_true, J5101, nI_a1, not_true_eq_false]
        · unfold pO; rw [gu_ne (by decide), gu_ne (by decide)]; exact o2
        · exact wR_fr w5' (gu_ne (by decide)) (gu_ne (by decide))
        · rw [gu_ne (by decide)]; exact h20'
        · unfold pA
          rw [e1, e2, e3, e4, e5, e6, e7, e8, gu_eq, gu_row (by decide), gu_row (by decide), gu_row (by decide), gu_row (by decide), gu_row (by decide), gu_row (by decide), gu_row (by decide), gu_row (by decide), gu_row (by decide), gu_row (by decide), R 93 (by decide) (by decide), R 94 (by decide) (by decide), R 95 (by decide) (by decide), R 96 (by decide) (by decide), R 97 (by decide) (by decide), R 98 (by decide) (by decide), R 99 (by decide) (by decide), R 100 (by decide) (by decide), R 103 (by decide) (by decide)]
          refine ⟨⟨a1, a2, a3, rfl, a5⟩, am, ak, fun j hj => ?_⟩
          unfold udN
          by_cases ea : j = A.nj
          · rw [if_pos ea, ea, r102, if_pos rfl]
          · rw [if_neg ea, r102, if_neg (by omega)]
            exact aj j (by omega)
      · exact absurd z0 (pB_ne hB).1
    · exact absurd z1' (pB_ne hB).1
  · subst hlm
    have e := (pB_ne hB).1
    refine ⟨J5, lm5, ?_, T5, Fr.rf _ _, Or.inl hB⟩
    rw [hst]
    simp (decide := true) only [QX12_tellJuror, e, if_true, not_false_eq_true]
end
