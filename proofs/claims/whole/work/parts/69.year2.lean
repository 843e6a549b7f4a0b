def yM (B : gm_I) (nj nm sd s k : Nat) (z : Int32) : Nat → Int32
  | 0 => z
  | m + 1 => if ys B nm m && decide (eO (yF B nj nm sd m k) = nI s) then yM B nj nm sd s k z m + B 13 (3 * m + s) else yM B nj nm sd s k z m
theorem yM_z (B : gm_I) (nj nm sd s k : Nat) (z : Int32) (M : Nat) : yM B nj nm sd s k z M = z + yM B nj nm sd s k 0 M := by
  induction M with
  | zero => simp only [yM, Int32.add_zero]
  | succ M ih =>
    simp only [yM]
    split
    · rw [ih, Int32.add_assoc]
    · exact ih
theorem yC_st (B : gm_I) (nj nm sd s k M : Nat) : yC B nj nm sd s (k + 1) M = yC B nj nm sd s k M + yM B nj nm sd s k 0 M := by
  induction M with
  | zero => rfl
  | succ M ih =>
    simp only [yC, yM, ih]
    cases hy : ys B nm M with
    | false => rfl
    | true =>
      simp only [Bool.true_and, decide_eq_true_eq, if_true]
      have hc : fI (cntF (nI s) (yF B nj nm sd M)) 0 (k + 1) = if eO (yF B nj nm sd M k) = nI s then fI (cntF (nI s) (yF B nj nm sd M)) 0 k + 1 else fI (cntF (nI s) (yF B nj nm sd M)) 0 k := rfl
      rw [hc]
      generalize fI (cntF (nI s) (yF B nj nm sd M)) 0 k = x
      generalize yC B nj nm sd s k M = y
      generalize yM B nj nm sd s k 0 M = u
      generalize B 13 (3 * M + s) = W
      by_cases h : eO (yF B nj nm sd M k) = nI s
      · rw [if_pos h, if_pos h, ← nI_a1, Int32.mul_add, Int32.mul_one]
        ac_rfl
      · rw [if_neg h, if_neg h]
        ac_rfl
def yT (B : gm_I) (nj nm nk sd s : Nat) : Nat → Int32
  | 0 => 0
  | k + 1 => yM B nj nm sd s k (yT B nj nm nk sd s k) nk
theorem yC_0 (B : gm_I) (nj nm sd s M : Nat) : yC B nj nm sd s 0 M = 0 := by
  induction M with
  | zero => rfl
  | succ M ih =>
    simp only [yC, ih]
    split
    · show 0 + _ * nI 0 = 0
      rw [nI_0, Int32.mul_zero, Int32.add_zero]
    · rfl
theorem yT_C (B : gm_I) (nj nm nk sd s n : Nat) : yT B nj nm nk sd s n = yC B nj nm sd s n nk := by
  induction n with
  | zero => rw [yC_0]; rfl
  | succ n ih => rw [yT, yM_z, ih, yC_st]
theorem gM_none (n : Nat) : gM (fun _ => false) n = 0 := by
  induction n with
  | zero => rfl
  | succ n ih => simpa [gM] using ih
def yR (B : gm_I) (nm m : Nat) (c : Nat → Int32) : Prop := c 75 = yD B nm m ∧ ∀ a, a < nm → (∀ k, k < 10 → c (10 * a + k) = B 22 (10 * a + k)) ∨ (c (10 * a + 3) = -2 ∧ ∃ j, j < m ∧ B 22 (10 * a + 3) = nI j)
section
variable {B : gm_I} {l nm nk nj ns : Nat}
theorem yR_spk {m : Nat} (hm : m < 256) {c : Nat → Int32} (h : yR B nm m c) {a : Nat} (ha : a < nm) : spc c m a = cSpk B (nI m) a ∧ (cSpk B (nI m) a = true → ∀ k, k < 10 → c (10 * a + k) = B 22 (10 * a + k)) := by
  rcases h.2 a ha with h1 | ⟨h1, j, hj, h2⟩
  · refine ⟨?_, fun _ => h1⟩
    unfold spc cSpk; rw [h1 3 (by decide)]
  · have hne : ¬ nI j = nI m := fun e => by
      have := nI_inj (by omega) (by omega) e
      omega
    have hf : cSpk B (nI m) a = false := by unfold cSpk; rw [h2]; exact decide_eq_false hne
    rw [hf]
    refine ⟨?_, fun e => by cases e⟩
    unfold spc; rw [h1]
    exact decide_eq_false (fun e => eO_256 hm e.symm)
theorem M_year_in (hR : iRoll B l nm nk nj ns) (h0 : nj ≠ 0) {s n sd k : Nat} (hs : s < 3) (lm : gm_L) (z : Int32) : ∀ (w m : Nat) (im : gm_I) (c : Nat → Int32), m + w = nk → Off B im → rRel c (im 117) nm nk ns → im 84 51 = nI (sd + k) → yR B nm m c → ∃ im', gm_den 264 49 [.ref 84, .int (nI s), .int (nI n), .int (yM B nj nm sd s k z m), .int (nI k), .int (nI m)] [] 128 gm_RF im lm = gm_den 264 25 [.ref 84, .int (nI s), .int (nI n), .int (yM B nj nm sd s k z nk), .int (nI (k + 1)), .int (nI nk)] [] 128 gm_RF im' lm ∧ Off B im' := by
  have hm7 := iR_nm hR
  have hk5 := iR_nk hR
  have hl2 := iR_l hR
  have hn8 := iR_nj hR
  have hj0 : ¬ nI nj ≤ 0 := nI_nle (by omega) (by omega)
  intro w
  induction w with
  | zero =>
    intro m im c hw ho hr hz hy
    have : m = nk := by omega
    subst this
    refine ⟨im, ?_, ho⟩
    rw [LX12_year_49]
    simp only [QX12_year, iR_18 hR ho, i2 l hl2, iR_99 hR ho, nI_le (Nat.le_refl m) (show m < 2 ^ 31 by omega), if_true, nI_a1]
  | succ w ih =>
    intro m im c hw ho hr hz hy
    have hm : m < nk := by omega
    have hm5 : m < 5 := by omega
    have hlt : ¬ nI nk ≤ nI m := nI_ge (by omega) (by omega)
    have hsp := M_speakers hR ho (nI m) lm
    have hse : mSp im nm (nI m) = gM (cSpk B (nI m)) nm := gM_ext (fun a ha => by
      rw [← (yR_spk (by omega) hy ha).1]
      show decide (im 117 (21 + a) = nI m) = spc c m a
      unfold spc
      rw [(rR_top hr ha).1])
    rw [hse] at hsp
    have hneg := neg_iff (ns := 3) (by decide) (rR_fell hr hm).2
    have hlt2 : gM (cSpk B (nI m)) nm < 256 := by
      have := gM_lt (cSpk B (nI m)) nm
      have h2 : 2 ^ nm ≤ 2 ^ 7 := Nat.pow_le_pow_right (by decide) hm7
      omega
    by_cases hg : gM (cSpk B (nI m)) nm = 0
    · have hys : ys B nm m = false := by simp [ys, hg]
      rw [hg] at hsp
      obtain ⟨im', h1, h2⟩ := ih (m + 1) im c (by omega) ho hr hz ⟨by rw [hy.1]; simp only [yD, hys]; rfl, fun a ha => by
        rcases hy.2 a ha with h | ⟨h, j, hj, e⟩
        · exact Or.inl h
        · exact Or.inr ⟨h, j, by omega, e⟩⟩
      refine ⟨im', ?_, h2⟩
      rw [← h1, LX12_year_49]
      by_cases hfe : im 117 (70 + m) < 0
      · have hfe' := Int32.not_le.mpr hfe
        simp (decide := true) only [QX12_year, iR_18 hR ho, i2 l hl2, iR_99 hR ho, iR_101 hR ho, hlt, hj0, if_true, if_false, ix70r m hm5, hfe, hfe', hsp, gm_cont_i, nI_0, nI_a1, yM, hys, Bool.false_and]
      · have hfe' := Int32.not_lt.mp hfe
        simp (decide := true) only [QX12_year, iR_18 hR ho, i2 l hl2, iR_99 hR ho, iR_101 hR ho, hlt, hj0, if_true, if_false, ix70r m hm5, hfe, hfe', nI_a1, yM, hys, Bool.false_and]
    · have hys : ys B nm m = true := by simp [ys, hg]
      have hne : ¬ nI (gM (cSpk B (nI m)) nm) = 0 := nI_ne0 (by omega) (by omega)
      have hfe : im 117 (70 + m) = -2 := by
        have hex : ∃ a, a < nm ∧ cSpk B (nI m) a = true := by
          refine Classical.byContradiction (fun hno => hg ?_)
          have : gM (cSpk B (nI m)) nm = gM (fun _ => false) nm := gM_ext (fun a ha => by
            cases h : cSpk B (nI m) a with
            | false => rfl
            | true => exact absurd ⟨a, ha, h⟩ hno)
          rw [this]; exact gM_none nm
        obtain ⟨a, ha, hsa⟩ := hex
        have h1 := (yR_spk (by omega) hy ha).1
        rw [hsa] at h1
        unfold spc at h1
        have h2 := of_decide_eq_true h1
        rw [(rR_top hr ha).1] at h2
        rcases (rR_top hr ha).2 with e | ⟨q, hq, e, e2⟩
        · rw [e] at h2; exact absurd h2.symm (eO_256 (by omega))
        · have : q = m := nI_inj (by omega) (by omega) (e.symm.trans h2)
          rw [← this]; exact e2
      have hfl : im 117 (70 + m) < 0 := hneg.1.mpr hfe
      have hfl' := Int32.not_le.mpr hfl
      obtain ⟨im1, u1, u2, u3, u4⟩ := sit_any hR h0 hm ho hr lm
      have hto : vFall B nj (spc c m) nm (hv B c (im 84 51)) = yF B nj nm sd m k := by
        unfold yF
        refine vFall_ext (fun a ha => (yR_spk (by omega) hy ha).1) (fun a ha h => ?_)
        have hcl := (yR_spk (by omega) hy ha).2 h
        have e1 : cV (rw22 B c) a = dV B (yD B nm m) a := by
          unfold dV
          rw [← hy.1]
          unfold cV upd rw22
          funext i
          simp (decide := true) only [if_true, if_false, hcl 0 (by decide), hcl 1 (by decide), hcl 4 (by decide), hcl 5 (by decide), hcl 8 (by decide)]
          by_cases e8 : i = 8
          · subst e8; rfl
          · simp only [e8, if_false]
        unfold hv
        rw [e1, hz, hy.1]
        cases sSl B (nI (sd + k)) (yD B nm m) a with
        | true => exact vEq.rf _
        | false =>
          intro i _ _
          by_cases e6 : i = 6
          · subst e6; rfl
          · rw [upd_ne _ _ e6]; rfl
      rw [hto] at u1 u4
      have hy' : yR B nm (m + 1) (hrw B nj nm c (im 84 51) m (eO (yF B nj nm sd m k))) := by
        unfold hrw
        generalize (fun a => vPy B nj (hv B c (im 84 51) a) (c (10 * a + 2))) = P
        generalize (fun a => vGd B (hv B c (im 84 51) a)) = G
        generalize (fun a => b32 (sSl B (im 84 51) (c 75) a)) = S
        generalize eO (yF B nj nm sd m k) = to
        obtain ⟨c1, c2, c3⟩ := heaF_ok c (spc c m) P G S nm hm7
        refine ⟨?_, fun a ha => ?_⟩
        · rw [upd_eq, hy.1]; simp only [yD, hys]; rfl
        · have hx : ∀ kk, kk < 10 → upd (upd (heaF c (spc c m) P G S nm) (70 + m) to) 75 (c 75 + 1) (10 * a + kk) = if a < nm ∧ spc c m a = true then heaN c a (P a) (G a) (S a) kk else c (10 * a + kk) := fun kk hk => by
            rw [upd_ne _ _ (by omega), upd_ne _ _ (by omega)]; exact c1 a (by omega) kk hk
          cases hsa : spc c m a with
          | true =>
            refine Or.inr ⟨?_, m, by omega, ?_⟩
            · rw [hx 3 (by decide), if_pos ⟨ha, hsa⟩]; rfl
            · have := (yR_spk (by omega) hy ha).1
              rw [hsa] at this
              unfold cSpk at this
              exact of_decide_eq_true this.symm
          | false =>
            have hng : ¬ (a < nm ∧ spc c m a = true) := by rw [hsa]; simp
            rcases hy.2 a ha with h | ⟨h, j, hj, e⟩
            · exact Or.inl (fun k hk => by rw [hx k hk, if_neg hng]; exact h k hk)
            · exact Or.inr ⟨by rw [hx 3 (by decide), if_neg hng]; exact h, j, by omega, e⟩
      obtain ⟨im', h1, h2⟩ := ih (m + 1) im1 _ (by omega) u2 u4 (by rw [u3]; exact hz) hy'
      refine ⟨im', ?_, h2⟩
      have hw : im1 100 (3 * (5 * l + m) + s) = B 13 (3 * m + s) := by rw [u2.1 100 rfl]; exact (hR.2.2.2.2.1 m s hm hs).1
      rw [← h1, LX12_year_49]
      by_cases hit : eO (yF B nj nm sd m k) = nI s
      · rw [hit] at u1
        simp (decide := true) only [QX12_year, iR_18 hR ho, i2 l hl2, iR_99 hR ho, iR_101 hR ho, hlt, hj0, if_true, if_false, ix70r m hm5, hfl, hfl', hsp, gm_cont_i, hne, u1, not_true_eq_false, iR_18 hR u2, gm_cat_i, yM, hys, Bool.true_and, hit, nI_a1, ixwo2 l m s hl2 hm5 hs, hw]
      · have hit2 : decide (eO (yF B nj nm sd m k) = nI s) = false := decide_eq_false hit
        simp (decide := true) only [QX12_year, iR_18 hR ho, i2 l hl2, iR_99 hR ho, iR_101 hR ho, hlt, hj0, if_true, if_false, ix70r m hm5, hfl, hfl', hsp, gm_cont_i, hne, u1, hit, not_false_eq_true, nI_a1, yM, hys, Bool.true_and, hit2]
theorem okI_ge0 {s : Nat} (hs : s < 3) : 0 ≤ nI s := by
  rcases (by omega : s = 0 ∨ s = 1 ∨ s = 2) with rfl | rfl | rfl <;> decide
theorem yF_0 {s : Nat} (hs : 0 ≤ nI s) (m k : Nat) (sd : Nat) : ¬ eO (yF B 0 nm sd m k) = nI s := by
  have : yF B 0 nm sd m k = none := by
    unfold yF vFall
    refine gw_none (fun q _ => ?_)
    unfold vSu
    have h := gN_le (cSpk B (nI m)) (fun a => pN (if sSl B (nI (sd + k)) (yD B nm m) a then upd (dV B (yD B nm m) a) 6 1 else dV B (yD B nm m) a)) (fun a => vS B 0 (if sSl B (nI (sd + k)) (yD B nm m) a then upd (dV B (yD B nm m) a) 6 1 else dV B (yD B nm m) a) 255) q nm 0 (fun a _ => Nat.le_refl _)
    rw [Nat.zero_mul] at h
    exact Nat.le_zero.mp h
  rw [this]
  intro e
  have e' : (-2 : Int32) = nI s := e
  rw [← e'] at hs
  exact absurd hs (by decide)
theorem yM_0 {s : Nat} (hs : 0 ≤ nI s) (sd k : Nat) (z : Int32) (M : Nat) : yM B 0 nm sd s k z M = z := by
  induction M with
  | zero => rfl
  | succ M ih =>
    have h : decide (eO (yF B 0 nm sd M k) = nI s) = false := decide_eq_false (yF_0 hs M k sd)
    simp only [yM, h, Bool.and_false, ih]
    rfl
theorem M_year_out (hR : iRoll B l nm nk nj ns) (hr : rRel (B 22) (B 116) nm nk ns) {s n sd : Nat} (hs : s < 3) (hn : n ≤ 20) (hsd : B 11 1 = nI sd) (lm : gm_L) : ∀ (w k : Nat) (im : gm_I) (x5 : Value), k + w = n → Off B im → x5.category = 1 → ∃ im', gm_den 264 25 [.ref 84, .int (nI s), .int (nI n), .int (yT B nj nm nk sd s k), .int (nI k), x5] [] 128 gm_RF im lm = some (some (.int (yT B nj nm nk sd s n)), 128, gm_RF, im', lm) ∧ Off B im' := by
  have hm7 := iR_nm hR
  have hk5 := iR_nk hR
  have hl2 := iR_l hR
  have hn8 := iR_nj hR
  intro w
  induction w with
  | zero =>
    intro k im x5 hw ho c5
    have : k = n := by omega
    subst this
    refine ⟨im, ?_, ho⟩
    rw [LX12_year_25]
    simp only [QX12_year, nI_le (Nat.le_refl k) (show k < 2 ^ 31 by omega), if_true]
  | succ w ih =>
    intro k im x5 hw ho c5
    have hlt : ¬ nI n ≤ nI k := nI_ge (by omega) (by omega)
    obtain ⟨im1, c1, o1, r1, z1, -⟩ := M_copies hR ho lm
    let im2 := gm_up im1 84 51 (nI (sd + k))
    have o2 : Off B im2 := o1.up84 rfl
    have z2 : im1 84 51 + nI k = nI (sd + k) := by rw [z1, hsd, nI_add]
    have e117 : im2 117 = im1 117 := gu_row (by decide)
    have hr2 : rRel (B 22) (im2 117) nm nk ns := by rw [e117]; exact rRel_eq hm7 hk5 hr (fun j _ => rfl) r1
    by_cases hj : nj = 0
    · subst hj
      have hj0 : nI 0 ≤ (0 : Int32) := by decide
      obtain ⟨im', h1, h2⟩ := ih (k + 1) im2 (.int (nI 0)) (by omega) o2 rfl
      refine ⟨im', ?_, h2⟩
      have hyt : yT B 0 nm nk sd s (k + 1) = yT B 0 nm nk sd s k := by
        rw [yT]; exact yM_0 (okI_ge0 hs) sd k _ nk
      rw [← h1, hyt, LX12_year_25]
      simp (decide := true) only [QX12_year, hlt, if_true, if_false, c1, gm_cont_v, z2, gm_cat_i, gm_cat_r, c5]
      rw [show gm_up im1 84 51 (nI (sd + k)) = im2 from rfl, show (0 : Int32) = nI 0 from rfl, LX12_year_49]
      by_cases hk0 : nI nk ≤ nI 0
      · simp (decide := true) only [QX12_year, iR_18 hR o2, i2 l hl2, iR_99 hR o2, hk0, if_true, nI_a1]
      · simp (decide := true) only [QX12_year, iR_18 hR o2, i2 l hl2, iR_99 hR o2, iR_101 hR o2, hk0, hj0, if_true, if_false, nI_a1]
    · obtain ⟨im3, g1, g2⟩ := M_year_in hR hj hs lm (n := n) (sd := sd) (k := k) (yT B nj nm nk sd s k) nk 0 im2 (B 22) (by omega) o2 hr2 gu_eq ⟨rfl, fun a _ => Or.inl (fun _ _ => rfl)⟩
      obtain ⟨im', h1, h2⟩ := ih (k + 1) im3 (.int (nI nk)) (by omega) g2 rfl
      refine ⟨im', ?_, h2⟩
      rw [← h1, LX12_year_25]
      simp (decide := true) only [QX12_year, hlt, if_true, if_false, c1, gm_cont_v, z2, gm_cat_i, gm_cat_r, c5]
      exact g1
end
theorem A_year (a n : Int32) : Agr 137 264 [.ref 0, .int a, .int n, .null, .null, .null] [.ref 84, .int a, .int n, .null, .null, .null] := by
  apply agrQ
  intro B lm l nm nk nj ns hI
  obtain ⟨hR, hr, -⟩ := hI
  have hns := iR_ns hR
  have n1 : Value.category .null = 1 := rfl
  have ho := Off.rf B
  have hin : ∀ (im : gm_I) (lm : gm_L), gm_den 200 0 [.int n, .int 1, .int 20] [] 128 gm_RF im lm = some (some (.int (if 1 ≤ n ∧ n ≤ 20 then 1 else 0)), 128, gm_RF, im, lm) := fun im lm => M_in n 1 20 im lm
  cases hg : okI ns a with
  | false =>
    refine ⟨-1, ⟨B, lm, ?_, ho, LK.rf lm⟩, fun im lm1 o k => ⟨im, lm1, ?_, o, k⟩⟩
    · simp (decide := true) only [QX11_year, Cg_sid hR ho, hg, b32_f, gm_cont_i, if_true, if_false]
    · simp (decide := true) only [QX12_year, Mg_sid hR o, hg, b32_f, gm_cont_i, if_true, if_false]
  | true =>
    obtain ⟨s, hs, rfl⟩ := okI_t (by omega) hg
    have hs3 : s < 3 := by omega
    by_cases h1 : 1 ≤ n
    · have h1' : ¬ n < 1 := Int32.not_lt.mpr h1
      by_cases h2 : n ≤ 20
      · have h2' : ¬ 20 < n := Int32.not_lt.mpr h2
        obtain ⟨q, hq, rfl⟩ : ∃ q, q ≤ 20 ∧ n = nI q := by
          rcases rngS 20 (by decide) n with h | h
          · exact h
          · have x1 := Int32.le_iff_toInt_le.mp h1
            have x2 := Int32.le_iff_toInt_le.mp h2
            have y1 : (1 : Int32).toInt = 1 := rfl
            have y2 : (20 : Int32).toInt = 20 := rfl
            omega
        obtain ⟨sd, hsd2, hsd⟩ := hR.2.1.2.2.2.2.2
        obtain ⟨im1, lm1, c1, c2, c3⟩ := C_year_loop hR hr hs3 hq hsd hsd2 nk 0 B lm (by omega) ho
        refine ⟨yC B nj nm sd s q nk, ⟨im1, lm1, ?_, c2, c3⟩, fun im lm1 o k => ?_⟩
        · rw [← c1]
          simp (decide := true) only [QX11_year, Cg_sid hR ho, hg, b32_t, gm_cont_i, if_true, if_false, h1', h2, h2', C_day, n1]
          rfl
        · obtain ⟨im2, d1, d2⟩ := M_year_out hR hr hs3 hq hsd lm1 q 0 im .null (by omega) o rfl
          refine ⟨im2, lm1, ?_, d2, k⟩
          rw [yT_C B nj nm nk sd s q] at d1
          rw [← d1]
          simp (decide := true) only [QX12_year, Mg_sid hR o, hg, b32_t, hin, h1, h2, and_self, gm_cont_i, if_true, if_false, n1]
          rfl
      · have h2' : 20 < n := Int32.not_le.mp h2
        refine ⟨-1, ⟨B, lm, ?_, ho, LK.rf lm⟩, fun im lm1 o k => ⟨im, lm1, ?_, o, k⟩⟩
        · simp (decide := true) only [QX11_year, Cg_sid hR ho, hg, b32_t, gm_cont_i, if_true, if_false, h1', h2, h2']
        · simp (decide := true) only [QX12_year, Mg_sid hR o, hg, b32_t, hin, h1, h2, and_false, gm_cont_i, if_true, if_false]
    · have h1' : n < 1 := Int32.not_le.mp h1
      refine ⟨-1, ⟨B, lm, ?_, ho, LK.rf lm⟩, fun im lm1 o k => ⟨im, lm1, ?_, o, k⟩⟩
      · simp (decide := true) only [QX11_year, Cg_sid hR ho, hg, b32_t, gm_cont_i, if_true, if_false, h1']
      · simp (decide := true) only [QX12_year, Mg_sid hR o, hg, b32_t, hin, h1, false_and, gm_cont_i, if_true, if_false]
