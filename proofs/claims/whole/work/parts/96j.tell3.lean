/-! the reference's tells, one by one -/
def pA (im : gm_I) (V : Nat → Nat) (s : Nat) (A : TA) : Prop := (im 93 s = nI A.sd ∧ im 94 s = nI A.nm ∧ im 99 s = nI A.nk ∧ im 101 s = nI A.nj ∧ im 103 s = nI A.se) ∧ (∀ a, a < A.nm → im 95 (7 * s + a) = nI (V (A.mi a + 2)) ∧ im 96 (7 * s + a) = nI (V (A.mi a + 3)) ∧ im 97 (7 * s + a) = nI (V (A.mi a + 4)) ∧ im 98 (7 * s + a) = nI (V (A.mi a + 5))) ∧ (∀ m i, m < A.nk → i < 3 → im 100 (3 * (5 * s + m) + i) = nI (V (A.ki m + 2 + i))) ∧ (∀ j, j < A.nj → im 102 (8 * s + j) = nI (V (A.ji j + 2)))
section
variable {K V P W : Nat → Nat} {M : Nat}
theorem Fo.tk {L : List Nat} {lm : gm_L} {a b : gm_I} (h : Fo L a b) {N : Nat} (hk : mTks a lm K V P W N) : mTks b lm K V P W N := by
  unfold mTks mTk1
  rw [h.1 87 (by decide), h.1 88 (by decide), h.1 89 (by decide)]
  exact hk
theorem gu_tk {lm : gm_L} {a : gm_I} {q k : Nat} {v : Int32} (hq : 93 ≤ q) {N : Nat} (hk : mTks a lm K V P W N) : mTks (gm_up a q k v) lm K V P W N := by
  unfold mTks mTk1
  rw [gu_row (by omega), gu_row (by omega), gu_row (by omega)]
  exact hk
theorem stgS_up {im : gm_I} {t i : Nat} {w : Nat × Nat} {q k : Nat} {v : Int32} (hq : q ≠ 84) (h : stgS K P im t i w ∨ pB K P im) : stgS K P (gm_up im q k v) t i w ∨ pB K P (gm_up im q k v) := by
  rcases h with h | h
  · exact Or.inl (stgS_fr h (fun j => gu_ne (fun e => hq e.symm)))
  · exact Or.inr (pB_fr h (gu_ne (fun e => hq e.symm)) (gu_ne (fun e => hq e.symm)) (gu_ne (fun e => hq e.symm)))
theorem M_tellMan (hx : tcx K V P W M) {im : gm_I} {lm : gm_L} {t s cnt : Nat} {A A' : TA} {w : Nat × Nat} (hs : s < 2) (hk : mTks im lm K V P W (M + 1)) (hok : okT K g0 (t + 1)) (hp : pO im (t + 1)) (hf : gFd K (t + 1) 1 4) (hw : wR im P w.1 w.2) (hw5 : w.1 ≤ 5) (hwt : ¬ w.1 = 0 → w.2 < t + 1) (hcnt : cnt < 20) (hn : nmR lm K W cnt (t + 1)) (h20 : im 84 20 = nI cnt) (h19 : im 84 19 = nI s) (hA : pA im V s A) (hnm : A.nm < 7) (e1 : A'.sd = A.sd) (e2 : A'.se = A.se) (e3 : A'.nm = A.nm + 1) (e4 : A'.nk = A.nk) (e5 : A'.nj = A.nj) (e6 : A'.mi = udN A.mi A.nm t) (e7 : A'.ki = A.ki) (e8 : A'.ji = A.ji) : ∃ im' lm', gm_den 190 0 [.ref 84, .null, .null] [] 128 gm_RF im lm = some (none, 128, gm_RF, im', lm') ∧ TF s im im' ∧ Fr [92] lm lm' ∧ (pB K P im' ∨ (K (t + 1) = 1 ∧ K (t + 2) = 2 ∧ K (t + 3) = 2 ∧ K (t + 4) = 2 ∧ K (t + 5) = 2 ∧ K (t + 6) = 59 ∧ okT K g0 (t + 7) ∧ (gst K g0 (t + 7)).w = 0 ∧ pO im' (t + 7) ∧ wR im' P (wrB V 0 999 (t + 5) (wrB V 0 10 (t + 4) (wrB V 1 9 (t + 3) (wrB V 0 2 (t + 2) (wrN K V (t + 1) w).1 (wrN K V (t + 1) w).2).1 (wrB V 0 2 (t + 2) (wrN K V (t + 1) w).1 (wrN K V (t + 1) w).2).2).1 (wrB V 1 9 (t + 3) (wrB V 0 2 (t + 2) (wrN K V (t + 1) w).1 (wrN K V (t + 1) w).2).1 (wrB V 0 2 (t + 2) (wrN K V (t + 1) w).1 (wrN K V (t + 1) w).2).2).2).1 (wrB V 0 10 (t + 4) (wrB V 1 9 (t + 3) (wrB V 0 2 (t + 2) (wrN K V (t + 1) w).1 (wrN K V (t + 1) w).2).1 (wrB V 0 2 (t + 2) (wrN K V (t + 1) w).1 (wrN K V (t + 1) w).2).2).1 (wrB V 1 9 (t + 3) (wrB V 0 2 (t + 2) (wrN K V (t + 1) w).1 (wrN K V (t + 1) w).2).1 (wrB V 0 2 (t + 2) (wrN K V (t + 1) w).1 (wrN K V (t + 1) w).2).2).2).2).1 (wrB V 0 999 (t + 5) (wrB V 0 10 (t + 4) (wrB V 1 9 (t + 3) (wrB V 0 2 (t + 2) (wrN K V (t + 1) w).1 (wrN K V (t + 1) w).2).1 (wrB V 0 2 (t + 2) (wrN K V (t + 1) w).1 (wrN K V (t + 1) w).2).2).1 (wrB V 1 9 (t + 3) (wrB V 0 2 (t + 2) (wrN K V (t + 1) w).1 (wrN K V (t + 1) w).2).1 (wrB V 0 2 (t + 2) (wrN K V (t + 1) w).1 (wrN K V (t + 1) w).2).2).2).1 (wrB V 0 10 (t + 4) (wrB V 1 9 (t + 3) (wrB V 0 2 (t + 2) (wrN K V (t + 1) w).1 (wrN K V (t + 1) w).2).1 (wrB V 0 2 (t + 2) (wrN K V (t + 1) w).1 (wrN K V (t + 1) w).2).2).1 (wrB V 1 9 (t + 3) (wrB V 0 2 (t + 2) (wrN K V (t + 1) w).1 (wrN K V (t + 1) w).2).1 (wrB V 0 2 (t + 2) (wrN K V (t + 1) w).1 (wrN K V (t + 1) w).2).2).2).2).2 ∧ im' 84 20 = nI (cnt + 1) ∧ lm' = gm_up lm 92 cnt (lm 90 (t + 1)) ∧ pA im' V s A')) := by
  have hM := hx.1.1
  have htM := okT_M hx.1 hok
  have n1 : Value.category .null = 1 := rfl
  have i2s : gm_in (nI s) 2 = true ∧ (nI s).toNatClampNeg = s := ⟨gm_in_nI hs (by decide), nI_clamp (by omega)⟩
  have ek : 7 * nI s + nI A.nm = nI (7 * s + A.nm) := by rw [show (7 : Int32) = nI 7 from rfl, nI_mul, nI_add]
  have c14 : gm_in (nI (7 * s + A.nm)) 14 = true := gm_in_nI (by omega) (by decide)
  have c14' : (nI (7 * s + A.nm)).toNatClampNeg = 7 * s + A.nm := nI_clamp (by omega)
  obtain ⟨⟨a1, a2, a3, a4, a5⟩, am, ak, aj⟩ := hA
  have hsx : ∀ q, 95 ≤ q → q ≤ 98 → s * sWd q ≤ 7 * s + A.nm ∧ 7 * s + A.nm < s * sWd q + sWd q := fun q h1 h2 => by
    have : sWd q = 7 := by rcases (by omega : q = 95 ∨ q = 96 ∨ q = 97 ∨ q = 98) with rfl | rfl | rfl | rfl <;> rfl
    rw [this]; omega
  obtain ⟨J0, n2, n3, n4⟩ := M_nm hx hk hok hp hf hw hw5 hwt (by omega) hn h20
  have hs0 : stgS K P J0 (t + 1 + 1) 4 (wrN K V (t + 1) w) ∨ pB K P J0 := by
    rcases n4 with ⟨-, h⟩ | h
    · exact Or.inl h
    · exact Or.inr h
  obtain ⟨J1, r1, b1, f1, s1⟩ := M_bd hx (Fo.tk n3 hk) hs0 (lo := 0) (hi := 2) (by decide) (by decide)
  have hs1 : stgS K P J1 (t + 2 + 1) 3 (wrB V 0 2 (t + 2) (wrN K V (t + 1) w).1 (wrN K V (t + 1) w).2) ∨ pB K P J1 := by
    rcases s1 with ⟨-, -, -, h⟩ | h
    · exact Or.inl h
    · exact Or.inr h
  let Q1 := gm_up J1 95 (7 * s + A.nm) r1
  have hkQ1 : mTks Q1 lm K V P W (M + 1) := gu_tk (by decide) (Fo.tk f1 (Fo.tk n3 hk))
  obtain ⟨J2, r2, b2, f2, s2⟩ := M_bd hx hkQ1 (stgS_up (by decide) hs1) (lo := 1) (hi := 9) (by decide) (by decide)
  have hs2 : stgS K P J2 (t + 3 + 1) 2 (wrB V 1 9 (t + 3) (wrB V 0 2 (t + 2) (wrN K V (t + 1) w).1 (wrN K V (t + 1) w).2).1 (wrB V 0 2 (t + 2) (wrN K V (t + 1) w).1 (wrN K V (t + 1) w).2).2) ∨ pB K P J2 := by
    rcases s2 with ⟨-, -, -, h⟩ | h
    · exact Or.inl h
    · exact Or.inr h
  let Q2 := gm_up J2 96 (7 * s + A.nm) r2
  have hkQ2 : mTks Q2 lm K V P W (M + 1) := gu_tk (by decide) (Fo.tk f2 hkQ1)
  obtain ⟨J3, r3, b3, f3, s3⟩ := M_bd hx hkQ2 (stgS_up (by decide) hs2) (lo := 0) (hi := 10) (by decide) (by decide)
  have hs3 : stgS K P J3 (t + 4 + 1) 1 (wrB V 0 10 (t + 4) (wrB V 1 9 (t + 3) (wrB V 0 2 (t + 2) (wrN K V (t + 1) w).1 (wrN K V (t + 1) w).2).1 (wrB V 0 2 (t + 2) (wrN K V (t + 1) w).1 (wrN K V (t + 1) w).2).2).1 (wrB V 1 9 (t + 3) (wrB V 0 2 (t + 2) (wrN K V (t + 1) w).1 (wrN K V (t + 1) w).2).1 (wrB V 0 2 (t + 2) (wrN K V (t + 1) w).1 (wrN K V (t + 1) w).2).2).2) ∨ pB K P J3 := by
    rcases s3 with ⟨-, -, -, h⟩ | h
    · exact Or.inl h
    · exact Or.inr h
  let Q3 := gm_up J3 97 (7 * s + A.nm) r3
  have hkQ3 : mTks Q3 lm K V P W (M + 1) := gu_tk (by decide) (Fo.tk f3 hkQ2)
  obtain ⟨J4, r4, b4, f4, s4⟩ := M_bd hx hkQ3 (stgS_up (by decide) hs3) (lo := 0) (hi := 999) (by decide) (by decide)
  have hs4 : stgS K P J4 (t + 5 + 1) 0 (wrB V 0 999 (t + 5) (wrB V 0 10 (t + 4) (wrB V 1 9 (t + 3) (wrB V 0 2 (t + 2) (wrN K V (t + 1) w).1 (wrN K V (t + 1) w).2).1 (wrB V 0 2 (t + 2) (wrN K V (t + 1) w).1 (wrN K V (t + 1) w).2).2).1 (wrB V 1 9 (t + 3) (wrB V 0 2 (t + 2) (wrN K V (t + 1) w).1 (wrN K V (t + 1) w).2).1 (wrB V 0 2 (t + 2) (wrN K V (t + 1) w).1 (wrN K V (t + 1) w).2).2).2).1 (wrB V 0 10 (t + 4) (wrB V 1 9 (t + 3) (wrB V 0 2 (t + 2) (wrN K V (t + 1) w).1 (wrN K V (t + 1) w).2).1 (wrB V 0 2 (t + 2) (wrN K V (t + 1) w).1 (wrN K V (t + 1) w).2).2).1 (wrB V 1 9 (t + 3) (wrB V 0 2 (t + 2) (wrN K V (t + 1) w).1 (wrN K V (t + 1) w).2).1 (wrB V 0 2 (t + 2) (wrN K V (t + 1) w).1 (wrN K V (t + 1) w).2).2).2).2) ∨ pB K P J4 := by
    rcases s4 with ⟨-, -, -, h⟩ | h
    · exact Or.inl h
    · exact Or.inr h
  let Q4 := gm_up J4 98 (7 * s + A.nm) r4
  have hkQ4 : mTks Q4 lm K V P W (M + 1) := gu_tk (by decide) (Fo.tk f4 hkQ3)
  have T4 : TF s im Q4 := (((((((((Fo.tf n3 (by decide)).tr (Fo.tf f1 (by decide))).tr (TF.up J1 r1 (by decide) (by decide) (hsx 95 (by decide) (by decide)))).tr (Fo.tf f2 (by decide))).tr (TF.up J2 r2 (by decide) (by decide) (hsx 96 (by decide) (by decide)))).tr (Fo.tf f3 (by decide))).tr (TF.up J3 r3 (by decide) (by decide) (hsx 97 (by decide) (by decide)))).tr (Fo.tf f4 (by decide))).tr (TF.up J4 r4 (by decide) (by decide) (hsx 98 (by decide) (by decide))))
  have F84 : ∀ j, j ∉ [11, 13, 14, 15, 16] → Q4 84 j = im 84 j := fun j hj => by
    show gm_up J4 98 _ _ 84 j = _
    rw [gu_ne (by decide), f4.2 j hj]
    show gm_up J3 97 _ _ 84 j = _
    rw [gu_ne (by decide), f3.2 j hj]
    show gm_up J2 96 _ _ 84 j = _
    rw [gu_ne (by decide), f2.2 j hj]
    show gm_up J1 95 _ _ 84 j = _
    rw [gu_ne (by decide), f1.2 j hj, n3.2 j hj]
  have Q420 : Q4 84 20 = nI cnt := by rw [F84 20 (by decide)]; exact h20
  obtain ⟨J5, lm5, q1, q2, q3⟩ := M_en hx hkQ4 (stgS_up (by decide) hs4) (x := t + 1) htM hcnt Q420
  have R : ∀ q, q ≠ 84 → q ≠ 95 → q ≠ 96 → q ≠ 97 → q ≠ 98 → J5 q = im q := fun q h0 h1 h2 h3 h4 => by
    rw [q2.1 q h0]
    show gm_up J4 98 _ _ q = _
    rw [gu_row h4, f4.1 q h0]
    show gm_up J3 97 _ _ q = _
    rw [gu_row h3, f3.1 q h0]
    show gm_up J2 96 _ _ q = _
    rw [gu_row h2, f2.1 q h0]
    show gm_up J1 95 _ _ q = _
    rw [gu_row h1, f1.1 q h0, n3.1 q h0]
  have J519 : J5 84 19 = nI s := by rw [q2.2 19 (by decide), F84 19 (by decide)]; exact h19
  have J594 : J5 94 s = nI A.nm := by rw [R 94 (by decide) (by decide) (by decide) (by decide) (by decide)]; exact a2
  have T5 : TF s im J5 := T4.tr (Fo.tf q2 (by decide))
  have hst : gm_den 190 0 [.ref 84, .null, .null] [] 128 gm_RF im lm = gm_den 190 80 [.ref 84, .int (nI (7 * s + A.nm)), .int (nI (t + 1))] [] 128 gm_RF J5 lm5 := by
    have z0 : nI 0 = 0 := rfl
    have z1 : nI 1 = 1 := rfl
    have z2 : nI 2 = 2 := rfl
    have z9 : nI 9 = 9 := rfl
    have z10 : nI 10 = 10 := rfl
    have z999 : nI 999 = 999 := rfl
    rw [z0, z2] at b1
    rw [z1, z9] at b2
    rw [z0, z10] at b3
    rw [z0, z999] at b4
    simp (decide := true) only [QX12_tellMan, h19, i2s, a2, ek, n1, if_true, n2, gm_cont_i, b1, c14, c14']
    refine (congrArg _ b2).trans ?_
    simp (decide := true) only [QX12_tellMan, gm_cont_i, if_true, c14, c14']
    refine (congrArg _ b3).trans ?_
    simp (decide := true) only [QX12_tellMan, gm_cont_i, if_true, c14, c14']
    refine (congrArg _ b4).trans ?_
    simp (decide := true) only [QX12_tellMan, gm_cont_i, if_true, c14, c14']
    refine (congrArg _ q1).trans ?_
    simp (decide := true) only [QX12_tellMan, gm_cont_v]
  rcases q3 with ⟨k6, o1, g0', o2, w5', h20', hlm, z4⟩ | ⟨hB, hlm⟩
  · -- all went well
    have z4' : J4 84 13 = 0 := by rw [← z4]; exact (gu_ne (by decide)).symm
    rcases s4 with ⟨k5, v4, z3, -⟩ | hB
    · have z3' : J3 84 13 = 0 := by rw [← z3]; exact (gu_ne (by decide)).symm
      rcases s3 with ⟨k4, v3, z2, -⟩ | hB
      · have z2' : J2 84 13 = 0 := by rw [← z2]; exact (gu_ne (by decide)).symm
        rcases s2 with ⟨k3, v2, z1, -⟩ | hB
        · have z1' : J1 84 13 = 0 := by rw [← z1]; exact (gu_ne (by decide)).symm
          rcases s1 with ⟨k2, v1, z0, -⟩ | hB
          · rcases n4 with ⟨k1, -⟩ | hB
            · have e13 : J5 84 13 = 0 := o2.2
              have r95 : J5 95 = gm_up im 95 (7 * s + A.nm) (nI (V (t + 2))) 95 := by
                rw [q2.1 95 (by decide)]
                show gm_up J4 98 _ _ 95 = _
                rw [gu_row (by decide), f4.1 95 (by decide)]
                show gm_up J3 97 _ _ 95 = _
                rw [gu_row (by decide), f3.1 95 (by decide)]
                show gm_up J2 96 _ _ 95 = _
                rw [gu_row (by decide), f2.1 95 (by decide)]
                funext y
                show gm_up J1 95 _ r1 95 y = _
                rw [v1]
                by_cases ey : y = 7 * s + A.nm
                · subst ey; rw [gu_eq, gu_eq]
                · rw [gu_nk ey, gu_nk ey, f1.1 95 (by decide), n3.1 95 (by decide)]
              have r96 : J5 96 = gm_up im 96 (7 * s + A.nm) (nI (V (t + 3))) 96 := by
                rw [q2.1 96 (by decide)]
                show gm_up J4 98 _ _ 96 = _
                rw [gu_row (by decide), f4.1 96 (by decide)]
                show gm_up J3 97 _ _ 96 = _
                rw [gu_row (by decide), f3.1 96 (by decide)]
                funext y
                show gm_up J2 96 _ r2 96 y = _
                rw [v2]
                by_cases ey : y = 7 * s + A.nm
                · subst ey; rw [gu_eq, gu_eq]
                · rw [gu_nk ey, gu_nk ey, f2.1 96 (by decide)]
                  show gm_up J1 95 _ _ 96 y = _
                  rw [gu_ne (by decide), f1.1 96 (by decide), n3.1 96 (by decide)]
              have r97 : J5 97 = gm_up im 97 (7 * s + A.nm) (nI (V (t + 4))) 97 := by
                rw [q2.1 97 (by decide)]
                show gm_up J4 98 _ _ 97 = _
                rw [gu_row (by decide), f4.1 97 (by decide)]
                funext y
                show gm_up J3 97 _ r3 97 y = _
                rw [v3]
                by_cases ey : y = 7 * s + A.nm
                · subst ey; rw [gu_eq, gu_eq]
                · rw [gu_nk ey, gu_nk ey, f3.1 97 (by decide)]
                  show gm_up J2 96 _ _ 97 y = _
                  rw [gu_ne (by decide), f2.1 97 (by decide)]
                  show gm_up J1 95 _ _ 97 y = _
                  rw [gu_ne (by decide), f1.1 97 (by decide), n3.1 97 (by decide)]
              have r98 : J5 98 = gm_up im 98 (7 * s + A.nm) (nI (V (t + 5))) 98 := by
                rw [q2.1 98 (by decide)]
                funext y
                show gm_up J4 98 _ r4 98 y = _
                rw [v4]
                by_cases ey : y = 7 * s + A.nm
                · subst ey; rw [gu_eq, gu_eq]
                · rw [gu_nk ey, gu_nk ey, f4.1 98 (by decide)]
                  show gm_up J3 97 _ _ 98 y = _
                  rw [gu_ne (by decide), f3.1 98 (by decide)]
                  show gm_up J2 96 _ _ 98 y = _
                  rw [gu_ne (by decide), f2.1 98 (by decide)]
                  show gm_up J1 95 _ _ 98 y = _
                  rw [gu_ne (by decide), f1.1 98 (by decide), n3.1 98 (by decide)]
              have hs94 : s * sWd 94 ≤ s ∧ s < s * sWd 94 + sWd 94 := by
                have : sWd 94 = 1 := rfl
                rw [this]; omega
              refine ⟨gm_up J5 94 s (nI (A.nm + 1)), lm5, ?_, T5.tr (TF.up J5 _ (by decide) (by decide) hs94), by rw [hlm]; exact Fr.up1 (by decide), Or.inr ⟨k1, k2, k3, k4, k5, k6, o1, g0', ?_, ?_, ?_, hlm, ?_⟩⟩
              · rw [hst]
                simp (decide := true) only [QX12_tellMan, e13, if_false, J519, i2s, if_true, J594, nI_a1, not_true_eq_false]
              · unfold pO; rw [gu_ne (by decide), gu_ne (by decide)]; exact o2
              · exact wR_fr w5' (gu_ne (by decide)) (gu_ne (by decide))
              · rw [gu_ne (by decide)]; exact h20'
              · unfold pA
                rw [e1, e2, e3, e4, e5, e6, e7, e8, gu_eq, gu_row (by decide), gu_row (by decide), gu_row (by decide), gu_row (by decide), gu_row (by decide), gu_row (by decide), gu_row (by decide), gu_row (by decide), gu_row (by decide), gu_row (by decide), r95, r96, r97, r98, R 93 (by decide) (by decide) (by decide) (by decide) (by decide), R 99 (by decide) (by decide) (by decide) (by decide) (by decide), R 100 (by decide) (by decide) (by decide) (by decide) (by decide), R 101 (by decide) (by decide) (by decide) (by decide) (by decide), R 102 (by decide) (by decide) (by decide) (by decide) (by decide), R 103 (by decide) (by decide) (by decide) (by decide) (by decide)]
                refine ⟨⟨a1, rfl, a3, a4, a5⟩, fun a ha => ?_, ak, aj⟩
                unfold udN
                by_cases ea : a = A.nm
                · rw [if_pos ea, ea, gu_eq, gu_eq, gu_eq, gu_eq]; exact ⟨rfl, rfl, rfl, rfl⟩
                · rw [if_neg ea, gu_nk (by omega), gu_nk (by omega), gu_nk (by omega), gu_nk (by omega)]
                  exact am a (by omega)
            · exact absurd z0 (pB_ne hB).1
          · exact absurd z1' (pB_ne hB).1
        · exact absurd z2' (pB_ne hB).1
      · exact absurd z3' (pB_ne hB).1
    · exact absurd z4' (pB_ne hB).1
  · subst hlm
    have e := (pB_ne hB).1
    refine ⟨J5, lm5, ?_, T5, Fr.rf _ _, Or.inl hB⟩
    rw [hst]
    simp (decide := true) only [QX12_tellMan, e, if_true, not_false_eq_true]
end
