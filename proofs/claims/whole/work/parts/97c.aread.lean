/-! reading: both answer the same -/
section
variable {K V : Nat → Nat}
theorem rgS_0 {s fi : Nat} : ∀ (f i : Nat), (rgS V s fi f i).1 = 0 → ∀ x, i ≤ x → x < i + f → gLo s x ≤ V (fi + x) ∧ V (fi + x) ≤ gHi s x := by
  intro f
  induction f with
  | zero => intro i _ x a b; omega
  | succ f ih =>
    intro i h x a b
    rw [rgS_4] at h
    by_cases hr : V (fi + i) < gLo s i ∨ gHi s i < V (fi + i)
    · rw [if_pos hr] at h; cases h
    · rw [if_neg hr] at h
      by_cases e : x = i
      · rw [e]; omega
      · exact ih (i + 1) h x (by omega) (by omega)
/-- numbers of a text with no fault are in their bounds -/
def foR (V : Nat → Nat) (A : TA) : Prop := (2 ≤ A.sd ∧ A.sd ≤ 3) ∧ A.se ≤ 9999 ∧ (∀ a, a < A.nm → V (A.mi a + 4) ≤ 10) ∧ ∀ m i, m < A.nk → i < 3 → V (A.ki m + 2 + i) ≤ 99
theorem foR_t : ∀ t : Nat, (foA K V t).wk = 0 → foR V (foA K V t) := by
  intro t
  induction t with
  | zero => intro _; exact ⟨⟨(by decide : 2 ≤ 2), (by decide : 2 ≤ 3)⟩, Nat.zero_le _, fun a h => absurd h (Nat.not_lt_zero _), fun a i h => absurd h (Nat.not_lt_zero _)⟩
  | succ t ih =>
    have e2 : foA K V (t + 1) = cond (tS K t) (tlT K V (foA K V t) t) (foA K V t) := rfl
    rw [e2]
    cases hs : tS K t with
    | false => exact ih
    | true =>
      intro h
      rw [cond_true] at h ⊢
      have hw := (tlT_w (K := K) (V := V) (foA K V t) t).1
      obtain ⟨w1, w2, w3, w4, w5, w6, w7, w8, w9⟩ := tlW_n K V (foA K V t) t
      rw [hw] at h
      have h0 : (foA K V t).wk = 0 := by
        apply Classical.byContradiction
        intro hc
        unfold tlW at h
        rw [if_neg (fun e => hc e.1)] at h
        exact hc h
      obtain ⟨⟨i1, i2⟩, i3, i4, i5⟩ := ih h0
      have hz : ∀ so, K t = 128 + so → so < 5 → ∀ x, x < gIn so → gLo so x ≤ V (t + 1 + gNa so + x) ∧ V (t + 1 + gNa so + x) ≤ gHi so x := by
        intro so hk hso x hx
        have e := (tlW_eq (K := K) (V := V) (A := foA K V t) (t := t) hk hso).1
        rw [if_pos h0] at e
        rw [e] at h
        unfold sfT at h
        rw [hk, Nat.add_sub_cancel_left] at h
        by_cases hd : gNa so = 1 ∧ twc K V (t + 1) (t + 1) = true
        · rw [if_pos hd] at h; cases h
        · rw [if_neg hd] at h
          exact rgS_0 _ _ h x (Nat.zero_le _) (by omega)
      unfold tlT foR
      by_cases k0 : K t = 128
      · have q := hz 0 k0 (by decide) 0 (by decide)
        rw [if_pos k0, TA_sd, TA_se, TA_nm, TA_nk, TA_mi, TA_ki, w1, w2, w5, w6, w7]
        exact ⟨q, i3, i4, i5⟩
      · rw [if_neg k0]
        by_cases k1 : K t = 129
        · have q := hz 1 k1 (by decide) 2 (by decide)
          rw [if_pos k1, TA_sd, TA_se, TA_nm, TA_nk, TA_mi, TA_ki, w2, w4, w5, w7]
          refine ⟨⟨i1, i2⟩, i3, fun a ha => ?_, i5⟩
          unfold udN
          by_cases e : a = (foA K V t).nm
          · rw [if_pos e]; exact q.2
          · rw [if_neg e]; exact i4 a (by omega)
        · rw [if_neg k1]
          by_cases k2 : K t = 130
          · rw [if_pos k2, TA_sd, TA_se, TA_nm, TA_nk, TA_mi, TA_ki, w1, w4, w5, w6]
            refine ⟨⟨i1, i2⟩, i3, i4, fun m i hm hi => ?_⟩
            unfold udN
            by_cases e : m = (foA K V t).nk
            · rw [if_pos e]; exact (hz 2 k2 (by decide) i hi).2
            · rw [if_neg e]; exact i5 m i (by omega) hi
          · rw [if_neg k2]
            by_cases k3 : K t = 131
            · rw [if_pos k3, TA_sd, TA_se, TA_nm, TA_nk, TA_mi, TA_ki, w1, w2, w4, w5, w6, w7]
              exact ⟨⟨i1, i2⟩, i3, i4, i5⟩
            · rw [if_neg k3]
              by_cases k4 : K t = 132
              · have q := hz 4 k4 (by decide) 0 (by decide)
                rw [if_pos k4, TA_sd, TA_se, TA_nm, TA_nk, TA_mi, TA_ki, w1, w2, w4, w6, w7]
                exact ⟨⟨i1, i2⟩, q.2, i4, i5⟩
              · rw [if_neg k4, TA_sd, TA_se, TA_nm, TA_nk, TA_mi, TA_ki, w1, w2, w4, w5, w6, w7]
                exact ⟨⟨i1, i2⟩, i3, i4, i5⟩
end
theorem rdO_uniq {tb : Nat → Nat} {n F F' T T' : Nat} {pl pl' : Int32} (h : rdO tb n F pl T) (h' : rdO tb n F' pl' T') : F = F' ∧ pl = pl' ∧ T = T' := by
  obtain ⟨f, a1, a2⟩ := h
  obtain ⟨f', b1, b2⟩ := h'
  obtain ⟨e1, e2⟩ := foT_uniq a1 b1
  subst e1
  subst e2
  refine ⟨?_, ?_, rfl⟩
  · rcases a2 with ⟨x, y, -⟩ | ⟨x, ⟨y1, y2, -⟩ | ⟨y1, y2, y3, -⟩ | ⟨y1, y2, y3, -⟩⟩ <;> rcases b2 with ⟨u, v, -⟩ | ⟨u, ⟨v1, v2, -⟩ | ⟨v1, v2, v3, -⟩ | ⟨v1, v2, v3, -⟩⟩ <;> omega
  · rcases a2 with ⟨x, -, y⟩ | ⟨x, ⟨y1, -, y⟩ | ⟨y1, y2, -, y⟩ | ⟨y1, y2, -, y⟩⟩ <;> rcases b2 with ⟨u, -, v⟩ | ⟨u, ⟨v1, -, v⟩ | ⟨v1, v2, -, v⟩ | ⟨v1, v2, -, v⟩⟩ <;> first | exact y.trans v.symm | (exfalso; omega)
theorem Fo.mr {s : Nat} {a b : gm_I} (h : Fo [15, 16, 17] a b) : mR s a b := ⟨fun q x _ => h.1 q (fun e => x (by rw [e]; decide)), fun j hj => h.2 j (fun e => hj (by simp at e ⊢; omega)), fun q j x y _ => by rw [h.1 q (by omega)]⟩
/-- where the text has a fault -/
theorem R_bad {im im1 im' : gm_I} {lm lm' : gm_L} {l nm nk nj ns : Nat} (hI : Inv im lm l nm nk nj ns) (g1 : Fr [0, 2, 3, 5, 6, 7, 8, 10] im im1) (g2 : im1 0 11 = im 0 11) (g3 : im1 0 1 = 0) (hm : mR (1 - l) im1 im') (h2 : im' 84 2 = 0) (h17 : im1 0 2 = im' 84 17) (hL : lmR lm') : Inv im' lm' l nm nk nj ns := by
  obtain ⟨hR, hrr, ⟨nx, sz, a1, a2, a3, a4, a5, a6⟩, ⟨hd, b1, b2, b3⟩, ⟨t, c1, c2, c3, c4⟩, hta, h02, hlm⟩ := hI
  have hq : ∀ q, q ∉ [0, 2, 3, 5, 6, 7, 8, 10] → q ∉ [84, 86, 87, 88, 89] → (q < 93 ∨ 113 < q) → im' q = im q := fun q x y z => (hm.1 q y z).trans (g1 q x)
  have h0 : im' 0 = im1 0 := hm.1 0 (by decide) (by decide)
  have h84 : ∀ j, j ∉ [2, 4, 10, 11, 12, 13, 14, 15, 16, 17, 19, 20, 35, 41, 45] → im' 84 j = im 84 j := fun j hj => by rw [hm.2.1 j hj, g1 84 (by decide)]
  have hR1 : iRoll im1 l nm nk nj ns := iRoll_eq (fun q hq => g1 q (fun e => by simp at e; omega)) (by rw [g1 84 (by decide)]) hR
  have hn : ∀ q, 11 ≤ q → q ≤ 83 → im' q = im q := fun q x y => hq q (fun e => by simp at e; omega) (fun e => by simp at e; omega) (by omega)
  refine ⟨iRoll_half (fun q x y => hm.1 q (fun e => by simp at e; omega) (by omega)) hm hR1, ?_, ⟨nx, sz, a1, a2, ?_, ?_, ?_, fun k hk => ?_⟩, ⟨hd, b1, ?_, fun s hs => ?_⟩, ⟨t, c1, ?_, ?_, fun i hi => ?_⟩, ⟨0, by decide, ?_, h2, fun i hi => absurd hi (Nat.not_lt_zero _)⟩, ?_, hL⟩
  · rw [hn 22 (by decide) (by decide), hq 116 (by decide) (by decide) (by decide)]; exact hrr
  · rw [hn 23 (by decide) (by decide)]; exact a3
  · rw [hn 23 (by decide) (by decide)]; exact a4
  · rw [h84 54 (by decide)]; exact a5
  · rw [hn (25 + (nx + 40 - sz + k) % 40) (by omega) (by omega), hq 120 (by decide) (by decide) (by decide)]; exact a6 k hk
  · rw [hn 23 (by decide) (by decide)]; exact b2
  · rw [hq 126 (by decide) (by decide) (by decide), hn (66 + s) (by omega) (by omega), hq 127 (by decide) (by decide) (by decide)]; exact b3 s hs
  · rw [h0, g2]; exact c2
  · rw [h84 61 (by decide)]; exact c3
  · rw [hn 82 (by decide) (by decide), hn 83 (by decide) (by decide), hq 123 (by decide) (by decide) (by decide), hq 124 (by decide) (by decide) (by decide)]; exact c4 i hi
  · rw [h0, g3]; rfl
  · rw [h0]; exact h17
/-- where it has none -/
theorem R_good {im1 im4 im' : gm_I} {lm' : gm_L} {K V : Nat → Nat} {T s z bb cb nx : Nat} (hs : s < 2) (hT : T ≤ 400) (hJ : (foA K V T).nm ≤ 7 ∧ (foA K V T).nk ≤ 5 ∧ (foA K V T).nj ≤ 8) (hwk : (foA K V T).wk = 0) (hfr : frT K V T < (foA K V T).sd) (x2 : cFi im1 V (foA K V T)) (hz : z ≤ 406) (x4 : cLws im1 K V T (foA K V T).la z) (x5 : sbR im1) (hnx : nx < 40) (x6 : im1 23 2 = nI nx) (x7 : im1 23 3 = 0) (x8 : im1 23 4 = 0) (x1 : im1 0 11 = 0) (x0 : im1 0 1 = 0) (x9 : im1 0 2 = im' 84 17) (hA : pA im4 V s (foA K V T)) (hm : mLws im4 K V s T (foA K V T).la bb cb) (hq1 : ∀ q, q ∉ [84, 86, 87, 88, 89, 116, 117, 126] → (q < 93 ∨ 113 < q) → im' q = im1 q) (hq4 : ∀ q, 93 ≤ q → q ≤ 112 → im' q = im4 q) (h35 : im' 84 35 = im4 84 35) (h41 : im' 84 41 = im4 84 41) (h2 : im' 84 2 = 0) (y3 : im' 84 18 = nI s) (y4 : im' 84 54 = 0) (y5 : im' 84 61 = 0) (y6 : ∀ x, x < 3 → im' 126 x = 0) (y7 : ∀ b, b < 7 → begV im4 s (foA K V T).nm (im' 116) b) (y8 : ∀ m, m < 5 → im' 116 (70 + m) = -2) (y9 : ∀ b, b < 7 → im' 116 (28 + b) = 0 ∧ im' 116 (35 + b) = 0 ∧ im' 116 (56 + b) = 0 ∧ im' 116 (63 + b) = 0) (y10 : im' 116 75 = 0) (y11 : im' 116 76 = 0) (hL : lmR lm') : Inv im' lm' s (foA K V T).nm (foA K V T).nk (foA K V T).nj (foA K V T).sd := by
  obtain ⟨⟨r1, r2⟩, r3, r4, r5⟩ := foR_t T hwk
  obtain ⟨v1, v2⟩ := (frT_iff (K := K) (V := V) (by omega) T).mp hfr
  obtain ⟨⟨f1, f2, f3, f4, f5⟩, f6, f7, f8⟩ := x2
  obtain ⟨⟨a1, a2, a3, a4, a5⟩, a6, a7, a8⟩ := hA
  obtain ⟨s1, s2, s3, s4⟩ := x5
  have hn : ∀ q, q < 84 → im' q = im1 q := fun q x => hq1 q (fun e => by simp at e; omega) (by omega)
  have cl : cLws im' K V T (foA K V T).la z := cLws_fr x4 (hn 15 (by decide)) (hn 16 (by decide)) (hn 17 (by decide)) (hn 18 (by decide)) rfl
  have ml : mLws im' K V s T (foA K V T).la bb cb := mLws_fr hm (Nat.le_refl _) h35 h41 (fun q a b => hq4 q (by omega) b)
  refine ⟨⟨⟨hs, hJ.1, hJ.2.1, hJ.2.2, by omega⟩, ⟨y3, ?_, ?_, ?_, ?_, ?_⟩, ⟨?_, ?_, ?_, ?_, ?_⟩, fun a ha => ?_, fun k i hk hi => ?_, fun j hj => ?_, R_cok cl hz, ⟨⟨R_mok hs hT ml (by decide), R_mok hs hT ml (by decide), R_mok hs hT ml (by decide)⟩, R_half hs hT ml⟩, fun k va hk => R_ev hs hT cl hz ml hk va⟩, ⟨fun a ha => ?_, fun m hm => ?_, ?_, ?_⟩, ⟨nx, 0, hnx, by decide, ?_, ?_, y4, fun k hk => absurd hk (Nat.not_lt_zero _)⟩, ⟨0, by decide, ?_, fun x hx => ⟨?_, fun h => ?_⟩⟩, ⟨0, by decide, ?_, y5, fun i hi => absurd hi (Nat.not_lt_zero _)⟩, ⟨0, by decide, ?_, h2, fun i hi => absurd hi (Nat.not_lt_zero _)⟩, ?_, hL⟩
  · rw [hn 11 (by decide)]; exact f1
  · rw [hn 11 (by decide)]; exact f3
  · rw [hn 11 (by decide)]; exact f4
  · rw [hn 11 (by decide)]; exact f5
  · rw [hn 11 (by decide)]; exact ⟨_, r3, f2⟩
  · rw [hq4 93 (by decide) (by decide)]; exact a1
  · rw [hq4 94 (by decide) (by decide)]; exact a2
  · rw [hq4 99 (by decide) (by decide)]; exact a3
  · rw [hq4 101 (by decide) (by decide)]; exact a4
  · rw [hq4 103 (by decide) (by decide), hn 11 (by decide), a5, f2]
  · rw [hq4 95 (by decide) (by decide), hq4 96 (by decide) (by decide), hq4 97 (by decide) (by decide), hq4 98 (by decide) (by decide), hn 12 (by decide), f6 a 0 ha (by decide), f6 a 1 ha (by decide), f6 a 2 ha (by decide), f6 a 3 ha (by decide)]
    obtain ⟨m1, m2, m3, m4⟩ := a6 a ha
    exact ⟨m1, m2, m3, m4, ⟨_, r4 a ha, rfl⟩, ⟨_, v1 a ha, rfl⟩⟩
  · rw [hq4 100 (by decide) (by decide), hn 13 (by decide), f7 k i hk hi]
    exact ⟨a7 k i hk hi, _, r5 k i hk hi, rfl⟩
  · rw [hq4 102 (by decide) (by decide), hn 14 (by decide), f8 j hj]; exact a8 j hj
  · obtain ⟨b0, b1, b2, b3, b4, b5, b6, b7, b8, b9⟩ := s1 a (by omega)
    obtain ⟨d0, d1, d2, d3, d4, d5⟩ := y7 a (by omega)
    obtain ⟨e0, e1, e2, e3⟩ := y9 a (by omega)
    obtain ⟨m1, m2, m3, m4⟩ := a6 a ha
    rw [if_pos ha] at d0 d2
    rw [hn 22 (by decide), b0, b1, b2, b3, b4, b5, b6, b7, b8, b9, d0, d1, d2, d3, d4, d5, e0, e1, e2, e3, f6 a 0 ha (by decide), f6 a 3 ha (by decide), m1, m4]
    exact ⟨⟨rfl, _, v1 a ha, rfl⟩, ⟨rfl, Or.inl rfl⟩, rfl, ⟨rfl, Or.inl rfl⟩, Or.inl ⟨rfl, rfl⟩, ⟨rfl, 0, by decide, rfl⟩, ⟨rfl, Or.inl rfl⟩, rfl, Or.inl ⟨rfl, rfl⟩, rfl⟩
  · rw [hn 22 (by decide), s2 m (by omega), y8 m (by omega)]; exact ⟨rfl, Or.inl rfl⟩
  · rw [hn 22 (by decide), s3, y10]
  · rw [hn 22 (by decide), s4, y11]
  · rw [hn 23 (by decide)]; exact x6
  · rw [hn 23 (by decide)]; exact x7
  · rw [hn 23 (by decide)]; exact x8
  · rw [y6 x hx, Nat.zero_testBit]; rfl
  · rw [Nat.zero_testBit] at h; cases h
  · rw [hn 0 (by decide)]; exact x1
  · rw [hn 0 (by decide)]; exact x0
  · rw [hn 0 (by decide)]; exact x9
theorem A_read : AgrS := by
  intro im lm l nm nk nj ns hI hst
  have hI0 := hI
  obtain ⟨hR, hrr, ⟨nx, sz, hnx, -, h232, -, -, -⟩, hsl, hto, ⟨n, hn, h01, h842, htp⟩, h02, hlm⟩ := hI
  obtain ⟨tb, htb⟩ : ∃ tb : Nat → Nat, ∀ i, i < n → tb i < 256 ∧ im 1 i = byN (tb i) := by
    refine ⟨fun i => if h : i < n then Classical.choose (htp i h).2 else 0, fun i hi => ?_⟩
    have := Classical.choose_spec (htp i hi).2
    show (if h : i < n then Classical.choose (htp i h).2 else 0) < 256 ∧ im 1 i = byN (if h : i < n then Classical.choose (htp i h).2 else 0)
    rw [dif_pos hi]
    exact this
  obtain ⟨im1, lm1, F, pl, T, c1, c2, c3, c4, c5, c6, c7, c8, c9⟩ := C_read ⟨hn, htb⟩ h01 hst hlm.1
  have hl := hR.1.1
  have hs : 1 - l < 2 := by omega
  obtain ⟨D, lm2, M, d1, d2, d3, d4, d5, d6⟩ := M_rpre (tb := tb) (im := im1) (lm := lm1) hn (by rw [c7 84 (by decide)]; exact h842) (fun x hx => ⟨(htb x hx).1, by rw [c7 85 (by decide), (htp x hx).1]; exact (htb x hx).2⟩) (by rw [c7 84 (by decide)]; exact hR.2.1.1) hl (fun k hk => by rw [c6 91 (by decide)]; exact hlm.2 k hk)
  obtain ⟨im3, lm3, p1, p2, p3, p4⟩ := M_parse d2 hs (nI n) 401 0 D lm2 (by omega) d3
  have hL : lmR lm3 := lmR_lk (LK.tr (c6.lk (by decide) (by decide)) (LK.tr (d4.lk (by decide) (by decide)) (p3.lk (by decide) (by decide)))) hlm
  rcases M_rend1 d2 hs (nI n) p4 with ⟨im', F', pl', T', r1, r2, r3, r4, r5⟩ | ⟨im4, T', r1, r2, r3, r4, r5⟩
  · obtain ⟨u1, u2, u3⟩ := rdO_uniq c2 r2
    subst u1
    subst u2
    subst u3
    obtain ⟨g1, g2⟩ := c8 r3
    have hm : mR (1 - l) im1 im' := (d5.tr p2.mr).tr r5.mr
    refine ⟨nI F, im1, lm1, im', lm3, l, nm, nk, nj, ns, c1, by rw [d1, p1, r1], R_bad hI0 g1 g2 c5 hm ?_ (c4.trans r4.symm) hL⟩
    rw [r5.2 2 (by decide), p2.2.1 2 (by decide)]; exact d6
  · obtain ⟨u1, u2, u3⟩ := rdO_uniq c2 r2
    subst u1
    subst u2
    subst u3
    obtain ⟨x1, x2, ⟨z, x3, x4⟩, x5, x6, x7, x8⟩ := c9 rfl
    obtain ⟨hok, hgE, hwk, hfr, -⟩ := rdO_0 c2
    obtain ⟨q1, q2, q3, q4, q5, q6, q7, q8, q9, q10, q11, bb, cb, q12⟩ := r5
    have hJ := gst_J (V := tkv tb n) q1
    have hA4 : pA im4 (tkv tb n) (1 - l) (foA (tkk tb n) (tkv tb n) T) := by
      unfold pA
      rw [r4.1 93 (by decide), r4.1 94 (by decide), r4.1 95 (by decide), r4.1 96 (by decide), r4.1 97 (by decide), r4.1 98 (by decide), r4.1 99 (by decide), r4.1 100 (by decide), r4.1 101 (by decide), r4.1 102 (by decide), r4.1 103 (by decide)]
      exact q11
    have hm4 : mLws im4 (tkk tb n) (tkv tb n) (1 - l) T (foA (tkk tb n) (tkv tb n) T).la bb cb := mLws_fr q12 (Nat.le_refl _) (r4.2 35 (by decide)) (r4.2 41 (by decide)) (fun q a b => r4.1 q (by omega))
    obtain ⟨im', y1, y2, y2', y3, y4, y5, y6, y7, y8, y9, y10, y11⟩ := M_rend2 (im := im4) hs hJ.2.2.2.2.2.2.2.2.2.1 (by rw [r4.2 19 (by decide)]; exact q6) hA4.1.2.1 lm3 (nI n)
    refine ⟨nI 0, im1, lm1, im', lm3, 1 - l, _, _, _, _, c1, by rw [d1, p1, r1, y1], R_good (im4 := im4) hs hok.1 ⟨hJ.2.2.2.2.2.2.2.2.2.1, hJ.2.2.2.2.2.2.2.2.2.2.1, hJ.2.2.2.2.2.2.2.2.2.2.2⟩ hwk hfr x2 x3 x4 x5 hnx (x6.trans h232) x7 x8 x1 c5 ?_ hA4 hm4 (fun q a b => ?_) (fun q a b => y2 q (fun e => by simp at e; omega)) (y2' 35 (by decide)) (y2' 41 (by decide)) ?_ y3 y4 y5 y6 y7 y8 y9 y10 y11 hL⟩
    · rw [c4, y2' 17 (by decide), r3]
    · have a1 : q ≠ 84 := fun e => a (by rw [e]; decide)
      rw [y2 q (fun e => a (by simp at e ⊢; omega)), r4.1 q a1, p2.1 q a1 b, d5.1 q (fun e => a (by simp at e ⊢; omega)) b]
    · rw [y2' 2 (by decide), r4.2 2 (by decide), p2.2.1 2 (by decide)]; exact d6
