/-! the reference cuts its text to the end -/
section
variable {im : gm_I} {tb : Nat → Nat} {n : Nat}
theorem M_sign {t : Nat} (ht : t < 403) (h : im 84 10 = nI t) {c : Nat} (hc : c < 256) (p d : Int32) (lm : gm_L) : gm_den 175 0 [.ref 84, .int p, .int (nI c), .int d, .null] [] 128 gm_RF im lm = some (some (.int 1), 128, gm_RF, tkM im t (nI (rK (tkSg c))) p 0, gm_up lm 90 t 0) := by
  have n1 : Value.category .null = 1 := rfl
  have hk := fun k => M_token ht h k p 0 0 lm
  have nk : ∀ x, x < 1000 → ¬ c = x → ¬ nI c = nI x := fun x hx h e => h ((nK_eq (by omega) hx).mp e)
  by_cases h1 : c = 59
  · subst h1; simp (decide := true) only [QX12_sign, n1, if_true, if_false, hk, gm_cont_v]; rfl
  by_cases h2 : c = 61
  · subst h2; simp (decide := true) only [QX12_sign, n1, if_true, if_false, hk, gm_cont_v]; rfl
  by_cases h3 : c = 40
  · subst h3; simp (decide := true) only [QX12_sign, n1, if_true, if_false, hk, gm_cont_v]; rfl
  by_cases h4 : c = 41
  · subst h4; simp (decide := true) only [QX12_sign, n1, if_true, if_false, hk, gm_cont_v]; rfl
  by_cases h5 : c = 43
  · subst h5; simp (decide := true) only [QX12_sign, n1, if_true, if_false, hk, gm_cont_v]; rfl
  by_cases h6 : c = 45
  · subst h6; simp (decide := true) only [QX12_sign, n1, if_true, if_false, hk, gm_cont_v]; rfl
  by_cases h7 : c = 42
  · subst h7; simp (decide := true) only [QX12_sign, n1, if_true, if_false, hk, gm_cont_v]; rfl
  by_cases h8 : c = 47
  · subst h8; simp (decide := true) only [QX12_sign, n1, if_true, if_false, hk, gm_cont_v]; rfl
  by_cases h9 : c = 60
  · subst h9; simp (decide := true) only [QX12_sign, n1, if_true, if_false, hk, gm_cont_v]; rfl
  have e0 : tkSg c = 0 := by unfold tkSg; rw [if_neg (by omega)]
  rw [e0]
  have m1 : ¬ nI c = 59 := nk 59 (by decide) h1
  have m2 : ¬ nI c = 61 := nk 61 (by decide) h2
  have m3 : ¬ nI c = 40 := nk 40 (by decide) h3
  have m4 : ¬ nI c = 41 := nk 41 (by decide) h4
  have m5 : ¬ nI c = 43 := nk 43 (by decide) h5
  have m6 : ¬ nI c = 45 := nk 45 (by decide) h6
  have m7 : ¬ nI c = 42 := nk 42 (by decide) h7
  have m8 : ¬ nI c = 47 := nk 47 (by decide) h8
  have m9 : ¬ nI c = 60 := nk 60 (by decide) h9
  simp (decide := true) only [QX12_sign, n1, if_true, if_false, hk, gm_cont_v, m1, m2, m3, m4, m5, m6, m7, m8, m9, not_false_eq_true]; rfl
/-- where the tokens end: at the text's end, or there are too many -/
def mCt (im : gm_I) (lm : gm_L) (tb : Nat → Nat) (n M : Nat) : Prop := M ≤ 400 ∧ mTks im lm (tkk tb n) (tkv tb n) (tkP tb n) (tkn tb n) (M + 1) ∧ (∀ x, x < M → ¬ tkk tb n x = 3) ∧ (tkk tb n M = 3 ∨ M = 400)
theorem M_cut_loop {im0 : gm_I} {lm0 : gm_L} (hT0 : mTX im0 tb n) (hw0 : ∀ k, k < 20 → lm0 91 k = Int64.ofNat (pkL 27 (cwd (kprm k)))) : ∀ (w i t : Nat) (im : gm_I) (lm : gm_L) (x2 x3 x4 x5 x6 x7 : Value), n ≤ i + w → i ≤ n → t ≤ 401 → (t ≤ 400 → txR txB tb n i = tkP tb n t) → (∀ x, x < t → ¬ tkk tb n x = 3) → Fr [84, 87, 88, 89] im0 im → (∀ j, j ≠ 10 → im 84 j = im0 84 j) → im 84 10 = nI t → Fr [90] lm0 lm → mTks im lm (tkk tb n) (tkv tb n) (tkP tb n) (tkn tb n) t → ∃ im' lm' M, gm_den 174 7 [.ref 84, .int (nI i), x2, x3, x4, x5, x6, x7] [] 128 gm_RF im lm = some (none, 128, gm_RF, im', lm') ∧ Fr [84, 87, 88, 89] im0 im' ∧ (∀ j, j ≠ 10 → im' 84 j = im0 84 j) ∧ Fr [90] lm0 lm' ∧ mCt im' lm' tb n M := by
  have h2000 := hT0.1
  intro w
  induction w with
  | zero =>
    intro i t im lm x2 x3 x4 x5 x6 x7 h1 h2 ht hp hne hF h84 h10 hL hTk
    have hi : i = n := by omega
    by_cases ht4 : t = 401
    · have c : (400 : Int32) < im 84 10 := by rw [h10, ht4]; decide
      refine ⟨im, lm, 400, ?_, hF, h84, hL, by decide, by rw [ht4] at hTk; exact hTk, fun x hx => hne x (by omega), Or.inr rfl⟩
      rw [LX12_cut_7]
      simp (decide := true) only [QX12_cut, c, if_true]
    · have c : ¬ (400 : Int32) < nI t := nI_nlt (a := 400) (by omega) (by omega)
      have hT : mTX im tb n := ⟨h2000, by rw [h84 4 (by decide)]; exact hT0.2.1, by rw [hF 86 (by decide)]; exact hT0.2.2⟩
      have hb := M_byteAt hT (i := i) (by omega) lm
      have hn4 := hT.2.1
      have c2 : ¬ nI i < nI n := nI_nlt (by omega) (by omega)
      have hpt := hp (by omega)
      rw [txR_ge (by omega)] at hpt
      have hK : tkk tb n t = 3 := tkk_end.mpr (by omega)
      have htk := M_token (t := t) (by omega) h10 0 (nI n) 0 0 lm
      obtain ⟨f1, f2, f3⟩ := tkM_fr im t 0 (nI n) 0
      refine ⟨tkM im t 0 (nI n) 0, gm_up lm 90 t 0, t, ?_, hF.tr f1, fun j hj => (f2 j hj).trans (h84 j hj), hL.up (by decide), by omega, mTks_add hTk (by rw [hK]; rfl) (by rw [← hpt, hi]) (fun h => by rw [hK] at h; cases h) (fun h => by rw [hK] at h; cases h), hne, Or.inl hK⟩
      rw [LX12_cut_7]
      simp (decide := true) only [QX12_cut, h10, c, if_false, hb, gm_cont_i, hn4, c2, htk, gm_cont_v]
  | succ w ih =>
    intro i t im lm x2 x3 x4 x5 x6 x7 h1 h2 ht hp hne hF h84 h10 hL hTk
    by_cases ht4 : t = 401
    · have c : (400 : Int32) < im 84 10 := by rw [h10, ht4]; decide
      refine ⟨im, lm, 400, ?_, hF, h84, hL, by decide, by rw [ht4] at hTk; exact hTk, fun x hx => hne x (by omega), Or.inr rfl⟩
      rw [LX12_cut_7]
      simp (decide := true) only [QX12_cut, c, if_true]
    · have c : ¬ (400 : Int32) < nI t := nI_nlt (a := 400) (by omega) (by omega)
      have hT : mTX im tb n := ⟨h2000, by rw [h84 4 (by decide)]; exact hT0.2.1, by rw [hF 86 (by decide)]; exact hT0.2.2⟩
      have hb := M_byteAt hT (i := i) (by omega) lm
      have hn4 := hT.2.1
      have hpt := hp (by omega)
      by_cases hi : i = n
      · have c2 : ¬ nI i < nI n := nI_nlt (by omega) (by omega)
        rw [txR_ge (by omega)] at hpt
        have hK : tkk tb n t = 3 := tkk_end.mpr (by omega)
        have htk := M_token (t := t) (by omega) h10 0 (nI n) 0 0 lm
        obtain ⟨f1, f2, f3⟩ := tkM_fr im t 0 (nI n) 0
        refine ⟨tkM im t 0 (nI n) 0, gm_up lm 90 t 0, t, ?_, hF.tr f1, fun j hj => (f2 j hj).trans (h84 j hj), hL.up (by decide), by omega, mTks_add hTk (by rw [hK]; rfl) (by rw [← hpt, hi]) (fun h => by rw [hK] at h; cases h) (fun h => by rw [hK] at h; cases h), hne, Or.inl hK⟩
        rw [LX12_cut_7]
        simp (decide := true) only [QX12_cut, h10, c, if_false, hb, gm_cont_i, hn4, c2, htk, gm_cont_v]
      · have hin : i < n := by omega
        have c2 : nI i < nI n := nI_lt hin (by omega)
        have ez : tbz tb n i = tb i := by unfold tbz; rw [if_pos hin]
        rw [ez] at hb
        have hbb := (hT.2.2 i hin).1
        have nk : ∀ x, x < 1000 → ¬ tb i = x → ¬ nI (tb i) = nI x := fun x hx h e => h ((nK_eq (by omega) hx).mp e)
        cases hB : txB (tb i) with
        | true =>
          rw [txR_go hin hB] at hpt
          obtain ⟨im', lm', M, i1, i2⟩ := ih (i + 1) t im lm (.int (nI (tb i))) x3 x4 x5 x6 x7 (by omega) (by omega) ht (fun _ => hpt) hne hF h84 h10 hL hTk
          refine ⟨im', lm', M, ?_, i2⟩
          have hbl : tb i = 9 ∨ tb i = 10 ∨ tb i = 13 ∨ tb i = 32 := by
            unfold txB at hB
            simp only [Bool.or_eq_true, beq_iff_eq] at hB
            omega
          rw [← i1, LX12_cut_7]
          rcases hbl with q | q | q | q
          · have e : nI (tb i) = 9 := by rw [q]; rfl
            rw [e] at hb ⊢
            simp (decide := true) only [QX12_cut, h10, c, if_false, hb, gm_cont_i, hn4, c2, if_true, nI_a1]
          · have e : nI (tb i) = 10 := by rw [q]; rfl
            rw [e] at hb ⊢
            simp (decide := true) only [QX12_cut, h10, c, if_false, hb, gm_cont_i, hn4, c2, if_true, nI_a1]
          · have e : nI (tb i) = 13 := by rw [q]; rfl
            rw [e] at hb ⊢
            simp (decide := true) only [QX12_cut, h10, c, if_false, hb, gm_cont_i, hn4, c2, if_true, nI_a1]
          · have e : nI (tb i) = 32 := by rw [q]; rfl
            rw [e] at hb ⊢
            simp (decide := true) only [QX12_cut, h10, c, if_false, hb, gm_cont_i, hn4, c2, if_true, nI_a1, not_true_eq_false]
        | false =>
          rw [txR_no hB] at hpt
          have hnb : ¬ tb i = 9 ∧ ¬ tb i = 10 ∧ ¬ tb i = 13 ∧ ¬ tb i = 32 := by
            unfold txB at hB
            simp only [Bool.or_eq_false_iff, beq_eq_false_iff_ne] at hB
            omega
          have m1 : ¬ nI (tb i) = 9 := nk 9 (by decide) hnb.1
          have m2 : ¬ nI (tb i) = 10 := nk 10 (by decide) hnb.2.1
          have m3 : ¬ nI (tb i) = 13 := nk 13 (by decide) hnb.2.2.1
          have m4 : ¬ nI (tb i) = 32 := nk 32 (by decide) hnb.2.2.2
          have hKn : ¬ tkk tb n t = 3 := fun h => by
            have := tkk_end.mp h
            omega
          have hlet := M_isLet hbb im lm
          have hdig := M_isDig hbb im lm
          have hn1 : Value.category .null = 1 := rfl
          have hE := tkE_n (tb := tb) (n := n) (i := i) hin
          have hnext : t + 1 ≤ 400 → txR txB tb n (tkE tb n i) = tkP tb n (t + 1) := fun _ => by
            show _ = txR txB tb n (tkE tb n (tkP tb n t))
            rw [hpt]
          have hne' : ∀ x, x < t + 1 → ¬ tkk tb n x = 3 := fun x hx => by
            by_cases e : x = t
            · rw [e]; exact hKn
            · exact hne x (by omega)
          have hnx : ∀ (k v : Int32) (nm : Int64) (y2 y3 y4 y5 y6 y7 : Value), k = nI (rK (tkk tb n t)) → (tkk tb n t = 2 → v = nI (tkv tb n t)) → (tkk tb n t = 1 → nm = Int64.ofNat (tkn tb n t)) → ∃ im' lm' M, gm_den 174 7 [.ref 84, .int (nI (tkE tb n i)), y2, y3, y4, y5, y6, y7] [] 128 gm_RF (tkM im t k (nI i) v) (gm_up lm 90 t nm) = some (none, 128, gm_RF, im', lm') ∧ Fr [84, 87, 88, 89] im0 im' ∧ (∀ j, j ≠ 10 → im' 84 j = im0 84 j) ∧ Fr [90] lm0 lm' ∧ mCt im' lm' tb n M := by
            intro k v nm y2 y3 y4 y5 y6 y7 hk hv hnm
            obtain ⟨f1, f2, f3⟩ := tkM_fr im t k (nI i) v
            exact ih (tkE tb n i) (t + 1) _ _ y2 y3 y4 y5 y6 y7 (by omega) hE.2 (by omega) hnext hne' (hF.tr f1) (fun j hj => (f2 j hj).trans (h84 j hj)) f3 (hL.up (by decide)) (mTks_add hTk hk (by rw [hpt]) hv hnm)
          cases hL2 : txL (tb i) with
          | true =>
            rw [hL2] at hlet
            have hEe : tkE tb n i = txR txL tb n i := by unfold tkE; rw [hL2]; rfl
            have hge := hE.1
            have hle := hE.2
            rw [hEe] at hge hle hnx
            have hlp := M_lets hT (p := i) (by omega) (nI (tb i)) x6 x7 lm n 0 (by omega) (by omega)
            rw [Nat.add_zero] at hlp
            have hin2 : ∀ x, i ≤ x → x < txR txL tb n i → txL (tb x) = true := fun x a b => txR_in a b
            have hKk : tkk tb n t = if 8 < txR txL tb n i - i then 0 else tkWd (pkG 32 (tkd tb i) (txR txL tb n i - i)) := by
              show tkK tb n (tkP tb n t) = _
              rw [← hpt]; unfold tkK; rw [if_neg (by omega), hL2]; rfl
            have hNn : tkn tb n t = pkG 27 (tkd tb i) (min 8 (txR txL tb n i - i)) := by
              show tkN tb n (tkP tb n t) = _
              rw [← hpt]; unfold tkN; rw [hL2]; rfl
            generalize hq : txR txL tb n i = q at *
            have hsum : nI i + nI (q - i) = nI q := by rw [nI_add, show i + (q - i) = q by omega]
            have hd : ∀ x, x < q - i → 1 ≤ tkd tb i x ∧ tkd tb i x < 27 := fun x hx => by
              have := txL_r (hin2 (i + x) (by omega) (by omega))
              show 1 ≤ tb (i + x) - 96 ∧ tb (i + x) - 96 < 27
              omega
            have hst : gm_den 174 7 [.ref 84, .int (nI i), x2, x3, x4, x5, x6, x7] [] 128 gm_RF im lm = gm_den 174 124 [.ref 84, .int (nI i), .int (nI (tb i)), .int (nI (q - i)), .long (Int64.ofNat (pkG 27 (tkd tb i) (min 8 (q - i)))), .null, x6, x7] [] 128 gm_RF im lm := by
              rw [← hlp, LX12_cut_7]
              simp (decide := true) only [QX12_cut, h10, c, if_false, hb, gm_cont_i, hn4, c2, if_true, m1, m2, m3, m4, not_false_eq_true, hlet, b32_t]
              rfl
            rw [hst]
            by_cases h8 : 8 < q - i
            · have c8 : ¬ nI (q - i) ≤ 8 := nI_ge (a := 8) h8 (by omega)
              have c7 : (7 : Int32) < nI (q - i) := nI_lt (a := 7) (by omega) (by omega)
              rw [if_pos h8] at hKk
              obtain ⟨im', lm', M, i1, i2⟩ := hnx 3 0 (Int64.ofNat (pkG 27 (tkd tb i) (min 8 (q - i)))) (.int (nI (tb i))) (.int (nI (q - i))) (.long (Int64.ofNat (pkG 27 (tkd tb i) (min 8 (q - i))))) .null (.int 3) x7 (by rw [hKk]; rfl) (fun h => by rw [hKk] at h; cases h) (fun h => by rw [hKk] at h; cases h)
              refine ⟨im', lm', M, ?_, i2⟩
              have htk := M_token (t := t) (by omega) h10 3 (nI i) 0 (Int64.ofNat (pkG 27 (tkd tb i) (min 8 (q - i)))) lm
              rw [← i1]
              simp (decide := true) only [QX12_cut, c8, c7, if_false, if_true, htk, gm_cont_v, hsum]
            · have c8 : nI (q - i) ≤ 8 := nI_le (b := 8) (by omega) (by decide)
              rw [if_neg h8] at hKk
              have hm8 : min 8 (q - i) = q - i := by omega
              rw [hm8] at hNn ⊢
              have hks := kSr_wd hd
              rw [← hKk] at hks
              have hnot2 : ¬ tkk tb n t = 2 := by
                rw [hKk]; unfold tkWd; split
                · decide
                · omega
              by_cases h7 : 7 < q - i
              · have c7 : (7 : Int32) < nI (q - i) := nI_lt (a := 7) h7 (by omega)
                have hone : tkk tb n t = 1 := by
                  rw [hKk]
                  unfold tkWd
                  rw [if_pos]
                  apply wIx_no
                  intro w hw hc
                  have := wd_len hw hd hc.symm
                  omega
                obtain ⟨im', lm', M, i1, i2⟩ := hnx 1 0 (Int64.ofNat (pkG 27 (tkd tb i) (q - i))) (.int (nI (tb i))) (.int (nI (q - i))) (.long (Int64.ofNat (pkG 27 (tkd tb i) (q - i)))) .null (.int 1) x7 (by rw [hone]; rfl) (fun h => absurd h hnot2) (fun _ => by rw [hNn])
                refine ⟨im', lm', M, ?_, i2⟩
                have htk := M_token (t := t) (by omega) h10 1 (nI i) 0 (Int64.ofNat (pkG 27 (tkd tb i) (q - i))) lm
                rw [← i1]
                simp (decide := true) only [QX12_cut, c8, c7, if_false, if_true, htk, gm_cont_v, hsum]
              · have c7 : ¬ (7 : Int32) < nI (q - i) := nI_nlt (a := 7) (by omega) (by omega)
                have hkeys := M_keys (lm := lm) (fun k hk => by rw [hL 91 (by decide)]; exact hw0 k hk) (v := pkG 27 (tkd tb i) (q - i)) (pkG_63 (by decide) (by decide) (by omega) (fun x hx => (hd x hx).2)) (nI i) (nI (tb i)) (nI (q - i)) im 20 0 rfl
                rw [hks] at hkeys
                obtain ⟨im', lm', M, i1, i2⟩ := hnx (nI (rK (tkk tb n t))) 0 (Int64.ofNat (pkG 27 (tkd tb i) (q - i))) (.int (nI (tb i))) (.int (nI (q - i))) (.long (Int64.ofNat (pkG 27 (tkd tb i) (q - i)))) .null (.int (nI (rK (tkk tb n t)))) (.int 20) rfl (fun h => absurd h hnot2) (fun _ => by rw [hNn])
                refine ⟨im', lm', M, ?_, i2⟩
                have htk := M_token (t := t) (by omega) h10 (nI (rK (tkk tb n t))) (nI i) 0 (Int64.ofNat (pkG 27 (tkd tb i) (q - i))) lm
                rw [← i1]
                refine Eq.trans ?_ (hkeys.trans ?_)
                · simp (decide := true) only [QX12_cut, c8, c7, if_false, if_true]
                  rfl
                · simp (decide := true) only [QX12_cut, htk, gm_cont_v, hsum]
          | false =>
            rw [hL2] at hlet
            cases hD : txD (tb i) with
            | true =>
              rw [hD] at hdig
              have hEe : tkE tb n i = txR txD tb n i := by unfold tkE; rw [hL2, hD]; rfl
              have hge := hE.1
              have hle := hE.2
              rw [hEe] at hge hle hnx
              have hdp := M_digs hT (p := i) (by omega) (nI (tb i)) x5 x6 x7 lm n 0 (by omega) (by omega) (fun x hx => absurd hx (Nat.not_lt_zero _))
              rw [Nat.add_zero] at hdp
              have hKk : tkk tb n t = if 4 < txR txD tb n i - i then 0 else 2 := by
                show tkK tb n (tkP tb n t) = _
                rw [← hpt]; unfold tkK; rw [if_neg (by omega), hL2, hD]; rfl
              have hVv : tkv tb n t = pkG 10 (tkz tb i) (min 4 (txR txD tb n i - i)) := by
                show tkV tb n (tkP tb n t) = _
                rw [← hpt]; unfold tkV; rw [hL2, hD]; rfl
              generalize hq : txR txD tb n i = q at *
              have hsum : nI i + nI (q - i) = nI q := by rw [nI_add, show i + (q - i) = q by omega]
              have hst : gm_den 174 7 [.ref 84, .int (nI i), x2, x3, x4, x5, x6, x7] [] 128 gm_RF im lm = gm_den 174 250 [.ref 84, .int (nI i), .int (nI (tb i)), .int (nI (q - i)), .int (nI (pkG 10 (tkz tb i) (min 4 (q - i)))), x5, x6, x7] [] 128 gm_RF im lm := by
                rw [← hdp, LX12_cut_7]
                simp (decide := true) only [QX12_cut, h10, c, if_false, hb, gm_cont_i, hn4, c2, if_true, m1, m2, m3, m4, not_false_eq_true, hlet, hdig, b32_t, b32_f]
                rfl
              rw [hst]
              by_cases h8 : 4 < q - i
              · have c8 : ¬ nI (q - i) ≤ 4 := nI_ge (a := 4) h8 (by omega)
                rw [if_pos h8] at hKk
                obtain ⟨im', lm', M, i1, i2⟩ := hnx 3 (nI (pkG 10 (tkz tb i) (min 4 (q - i)))) 0 (.int (nI (tb i))) (.int (nI (q - i))) (.int (nI (pkG 10 (tkz tb i) (min 4 (q - i))))) x5 x6 x7 (by rw [hKk]; rfl) (fun h => by rw [hKk] at h; cases h) (fun h => by rw [hKk] at h; cases h)
                refine ⟨im', lm', M, ?_, i2⟩
                have htk := M_token (t := t) (by omega) h10 3 (nI i) (nI (pkG 10 (tkz tb i) (min 4 (q - i)))) 0 lm
                rw [← i1]
                simp (decide := true) only [QX12_cut, c8, if_false, if_true, htk, gm_cont_v, hsum]
              · have c8 : nI (q - i) ≤ 4 := nI_le (b := 4) (by omega) (by decide)
                rw [if_neg h8] at hKk
                obtain ⟨im', lm', M, i1, i2⟩ := hnx 2 (nI (pkG 10 (tkz tb i) (min 4 (q - i)))) 0 (.int (nI (tb i))) (.int (nI (q - i))) (.int (nI (pkG 10 (tkz tb i) (min 4 (q - i))))) x5 x6 x7 (by rw [hKk]; rfl) (fun h => by rw [hVv]) (fun h => by rw [hKk] at h; cases h)
                refine ⟨im', lm', M, ?_, i2⟩
                have htk := M_token (t := t) (by omega) h10 2 (nI i) (nI (pkG 10 (tkz tb i) (min 4 (q - i)))) 0 lm
                rw [← i1]
                simp (decide := true) only [QX12_cut, c8, if_false, if_true, htk, gm_cont_v, hsum]
            | false =>
              rw [hD] at hdig
              have hEe : tkE tb n i = i + 1 := by unfold tkE; rw [hL2, hD]; rfl
              rw [hEe] at hnx
              have hKk : tkk tb n t = tkSg (tb i) := by
                show tkK tb n (tkP tb n t) = _
                rw [← hpt]; unfold tkK; rw [if_neg (by omega), hL2, hD]; rfl
              have hsg : tkSg (tb i) = 0 ∨ 40 ≤ tkSg (tb i) := by unfold tkSg; split; rename_i h; omega; exact Or.inl rfl
              obtain ⟨im', lm', M, i1, i2⟩ := hnx (nI (rK (tkSg (tb i)))) 0 0 (.int (nI (tb i))) x3 x4 x5 x6 x7 (by rw [hKk]) (fun h => by omega) (fun h => by omega)
              refine ⟨im', lm', M, ?_, i2⟩
              have hb1 := M_byteAt hT (i := i + 1) (by omega) lm
              have hsn := M_sign (t := t) (by omega) h10 hbb (nI i) (nI (tbz tb n (i + 1))) lm
              rw [← i1, LX12_cut_7]
              simp (decide := true) only [QX12_cut, h10, c, if_false, hb, gm_cont_i, hn4, c2, if_true, m1, m2, m3, m4, not_false_eq_true, hlet, hdig, b32_f, nI_a1, hb1, hsn]
theorem M_cut {lm : gm_L} (hT : mTX im tb n) (hw : ∀ k, k < 20 → lm 91 k = Int64.ofNat (pkL 27 (cwd (kprm k)))) : ∃ im' lm' M, gm_den 174 0 [.ref 84, .null, .null, .null, .null, .null, .null, .null] [] 128 gm_RF im lm = some (none, 128, gm_RF, im', lm') ∧ Fr [84, 87, 88, 89] im im' ∧ (∀ j, j ≠ 10 → im' 84 j = im 84 j) ∧ Fr [90] lm lm' ∧ mCt im' lm' tb n M := by
  have h2000 := hT.1
  have hT' : mTX (gm_up im 84 10 0) tb n := ⟨h2000, by rw [gu_nk (by decide)]; exact hT.2.1, by rw [gu_row (by decide)]; exact hT.2.2⟩
  obtain ⟨im', lm', M, h1, h2, h3, h4⟩ := M_cut_loop hT' hw n 0 0 (gm_up im 84 10 0) lm .null .null .null .null .null .null (by omega) (Nat.zero_le _) (by decide) (fun _ => rfl) (fun x hx => absurd hx (Nat.not_lt_zero _)) (Fr.rf _ _) (fun _ _ => rfl) gu_eq (Fr.rf _ _) (fun x hx => absurd hx (Nat.not_lt_zero _))
  refine ⟨im', lm', M, ?_, Fr.tr (Fr.up1 (by decide)) h2, fun j hj => by rw [h3 j hj, gu_nk hj], h4⟩
  rw [← h1]
  simp (decide := true) only [QX12_cut]
  rfl
end
