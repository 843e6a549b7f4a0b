/-! questions: jury -/
theorem M_apart_loop {im : gm_I} {S N : Nat → Nat} (h : tally im S N) (hpos : ∀ s, s < 3 → (0 < S s ↔ 0 < N s)) (lm : gm_L) : ∀ (w s : Nat) (x4 : Value), s + w = 3 → x4.category = 1 → gm_den 255 6 [.ref 84, .int (oMe S N (gl S N s)), .int (oMe S N (gw S N s)), .int (nI s), x4] [] 128 gm_RF im lm = some (some (.int (oMe S N (gw S N 3) - oMe S N (gl S N 3))), 128, gm_RF, im, lm) := by
  have hp : pos S N := fun s hs hh => (hpos s hs).mp hh
  intro w
  induction w with
  | zero =>
    intro s x4 hw c4
    have : s = 3 := by omega
    subst this
    rw [LX12_apartNow_6]
    simp (decide := true) only [QX12_apartNow, if_true]
  | succ w ih =>
    intro s x4 hw c4
    have hs3 : s < 3 := by omega
    obtain ⟨h1, h2, h3, h4⟩ := h s hs3
    have hlt : ¬ (3 : Int32) ≤ nI s := nI_ge (b := 3) hs3 (by decide)
    rw [LX12_apartNow_6]
    by_cases hN : 0 < N s
    · have hS := (hpos s hs3).mpr hN
      have hz : ¬ nI (N s) = 0 := nI_ne0 hN (by omega)
      have hm1 := M_meanOf h hs3 hN lm
      have g1 := gMean_le (N := N) h3
      have ih1 := ih (s + 1) (.int (nI (gMean S N s))) (by omega) rfl
      have hm0 : ¬ nI (gMean S N s) ≤ -1 := by
        rw [Int32.not_le]
        exact Int32.lt_of_lt_of_le (show (-1 : Int32) < 0 by decide) (nI_le (a := 0) (Nat.zero_le _) (by omega))
      -- least
      have hL : ∃ L : Int32, oMe S N (gl S N (s + 1)) = L ∧ ((oMe S N (gl S N s) < 0 ∧ L = nI (gMean S N s)) ∨ (¬ oMe S N (gl S N s) < 0 ∧ ((¬ oMe S N (gl S N s) ≤ nI (gMean S N s) ∧ L = nI (gMean S N s)) ∨ (oMe S N (gl S N s) ≤ nI (gMean S N s) ∧ L = oMe S N (gl S N s))))) := by
        refine ⟨_, rfl, ?_⟩
        simp only [gl]
        cases hg : gl S N s with
        | none => left; simp only [hS, if_true, oMe]; exact ⟨by decide, trivial⟩
        | some b =>
          right
          obtain ⟨b1, b2, -⟩ := gl_min hp (show s ≤ 3 by omega) hg
          have hb3 : b < 3 := by omega
          have hNb := (hpos b hb3).mp b2
          have hc := mean_lt (S := S) hNb (h b hb3).2.2.2 hN h4
          have g2 := gMean_le (N := N) (h b hb3).2.2.1
          refine ⟨by simp only [oMe]; exact nI_nlt (Nat.zero_le _) (by omega), ?_⟩
          by_cases hcm : S s * N b < S b * N s
          · left
            simp only [hS, hcm, and_self, if_true, oMe]
            exact ⟨nI_ge (hc.mpr hcm) (by omega), trivial⟩
          · right
            simp only [hcm, and_false, if_false, oMe]
            exact ⟨nI_le (by omega) (by omega), trivial⟩
      have hG : ∃ L : Int32, oMe S N (gw S N (s + 1)) = L ∧ ((¬ nI (gMean S N s) ≤ oMe S N (gw S N s) ∧ L = nI (gMean S N s)) ∨ (nI (gMean S N s) ≤ oMe S N (gw S N s) ∧ L = oMe S N (gw S N s))) := by
        refine ⟨_, rfl, ?_⟩
        simp only [gw]
        cases hg : gw S N s with
        | none => left; simp only [hS, if_true, oMe]; exact ⟨hm0, trivial⟩
        | some b =>
          have b1 := gw_lt hg
          have hb3 : b < 3 := by omega
          have hSb : 0 < S b := by
            rw [← gwl_gw S N s (by omega)] at hg
            exact (gwl_max hp (show s ≤ 3 by omega) hg).2.1
          have hNb := (hpos b hb3).mp hSb
          have hc := mean_lt (S := S) hN h4 hNb (h b hb3).2.2.2
          have g2 := gMean_le (N := N) (h b hb3).2.2.1
          by_cases hcm : S b * N s < S s * N b
          · left
            simp only [hcm, if_true, oMe]
            exact ⟨nI_ge (hc.mpr hcm) (by omega), trivial⟩
          · right
            simp only [hcm, if_false, oMe]
            exact ⟨nI_le (by omega) (by omega), trivial⟩
      obtain ⟨L, eL, hL⟩ := hL
      obtain ⟨G, eG, hG⟩ := hG
      rw [eL, eG] at ih1
      rcases hL with ⟨l1, rfl⟩ | ⟨l0, ⟨l1, rfl⟩ | ⟨l1, rfl⟩⟩ <;> rcases hG with ⟨k1, rfl⟩ | ⟨k1, rfl⟩ <;> simp only [QX12_apartNow, hlt, if_false, if_true, i3s s hs3, h2, hz, not_false_eq_true, hm1, gm_cont_i, gm_cat_i, c4, l1, k1, nI_a1, *]
    · have h0 : N s = 0 := by omega
      have hz : nI (N s) = 0 := by rw [h0]; rfl
      have hS0 : ¬ 0 < S s := fun hh => hN ((hpos s hs3).mp hh)
      have ih1 := ih (s + 1) x4 (by omega) c4
      have e1 : gl S N (s + 1) = gl S N s := by
        simp only [gl]
        cases gl S N s with
        | none => simp [hS0]
        | some b => simp [hS0]
      have e2 : gw S N (s + 1) = gw S N s := by
        simp only [gw]
        cases gw S N s with
        | none => simp [hS0]
        | some b => simp [show S s = 0 by omega]
      rw [e1, e2] at ih1
      simp only [QX12_apartNow, hlt, if_false, if_true, i3s s hs3, h2, hz, not_true_eq_false, nI_a1]
      exact ih1
theorem M_apartNow {im : gm_I} {S N : Nat → Nat} (h : tally im S N) (hpos : ∀ s, s < 3 → (0 < S s ↔ 0 < N s)) (lm : gm_L) : gm_den 255 0 [.ref 84, .null, .null, .null, .null] [] 128 gm_RF im lm = some (some (.int (oMe S N (gw S N 3) - oMe S N (gl S N 3))), 128, gm_RF, im, lm) := by
  have h1 := M_apart_loop h hpos lm 3 0 .null (by omega) rfl
  have n1 : Value.category .null = 1 := rfl
  simp only [QX12_apartNow, gm_cat_i, n1]
  exact h1
/-- apart, 420 times -/
def gAp (S N : Nat → Nat) : Nat := match gw S N 3 with
  | none => 0
  | some a => match gl S N 3 with
    | none => 0
    | some b => gMean S N a - gMean S N b
theorem mean_mul {S N : Nat → Nat} {a b : Nat} (ha : 0 < N a) (ha7 : N a ≤ 7) (hb : 0 < N b) (hb7 : N b ≤ 7) : (gMean S N a - gMean S N b) * (N a * N b) = 420 * (S a * N b - S b * N a) := by
  unfold gMean
  generalize N a = x at *
  generalize N b = y at *
  generalize S a = u
  generalize S b = v
  have hx : x = 1 ∨ x = 2 ∨ x = 3 ∨ x = 4 ∨ x = 5 ∨ x = 6 ∨ x = 7 := by omega
  have hy : y = 1 ∨ y = 2 ∨ y = 3 ∨ y = 4 ∨ y = 5 ∨ y = 6 ∨ y = 7 := by omega
  rcases hx with rfl | rfl | rfl | rfl | rfl | rfl | rfl <;> rcases hy with rfl | rfl | rfl | rfl | rfl | rfl | rfl <;> omega
theorem dvd3 (F : Nat → Nat) {a b : Nat} (ha3 : a < 3) (hb3 : b < 3) : F a * F b ∣ 1 * (F 0 * F 0) * (F 1 * F 1) * (F 2 * F 2) := by
  rw [Nat.one_mul]
  have hA : a = 0 ∨ a = 1 ∨ a = 2 := by omega
  have hB : b = 0 ∨ b = 1 ∨ b = 2 := by omega
  rcases hA with rfl | rfl | rfl <;> rcases hB with rfl | rfl | rfl
  · exact ⟨(F 1 * F 1) * (F 2 * F 2), by ac_rfl⟩
  · exact ⟨F 0 * F 1 * (F 2 * F 2), by ac_rfl⟩
  · exact ⟨F 0 * F 2 * (F 1 * F 1), by ac_rfl⟩
  · exact ⟨F 0 * F 1 * (F 2 * F 2), by ac_rfl⟩
  · exact ⟨(F 0 * F 0) * (F 2 * F 2), by ac_rfl⟩
  · exact ⟨F 1 * F 2 * (F 0 * F 0), by ac_rfl⟩
  · exact ⟨F 0 * F 2 * (F 1 * F 1), by ac_rfl⟩
  · exact ⟨F 1 * F 2 * (F 0 * F 0), by ac_rfl⟩
  · exact ⟨(F 0 * F 0) * (F 1 * F 1), by ac_rfl⟩
theorem gall_dvd {N : Nat → Nat} {a b : Nat} (ha3 : a < 3) (hb3 : b < 3) (ha : 0 < N a) (hb : 0 < N b) : N a * N b ∣ gall N 3 := by
  have fe : ∀ s, 0 < N s → N s = fa N s := fun s hs => by unfold fa; split <;> omega
  rw [fe a ha, fe b hb]
  exact dvd3 (fa N) ha3 hb3
theorem gall_pos (N : Nat → Nat) : 0 < gall N 3 := by
  have hf : ∀ s, 0 < fa N s := fun s => by unfold fa; split <;> omega
  show 0 < 1 * (fa N 0 * fa N 0) * (fa N 1 * fa N 1) * (fa N 2 * fa N 2)
  exact Nat.mul_pos (Nat.mul_pos (Nat.mul_pos (by decide) (Nat.mul_pos (hf 0) (hf 0))) (Nat.mul_pos (hf 1) (hf 1))) (Nat.mul_pos (hf 2) (hf 2))
theorem ap_ex {S N : Nat → Nat} (hl : lanes S N) (hp : pos S N) : gAp S N * gall N 3 = gEx S N * 420 := by
  unfold gAp gEx
  cases hg : gw S N 3 with
  | none => simp
  | some a =>
    simp only []
    cases hg2 : gl S N 3 with
    | none => simp
    | some b =>
      simp only []
      obtain ⟨ha, ha0, -⟩ := gw_max hp hg
      obtain ⟨hb, hb0, -⟩ := gl_min hp (by decide) hg2
      obtain ⟨c, hc⟩ := gall_dvd ha hb (hp a ha ha0) (hp b hb hb0)
      have hpp := Nat.mul_pos (hp a ha ha0) (hp b hb hb0)
      have hd : gall N 3 / (N a * N b) = c := by rw [hc]; exact Nat.mul_div_cancel_left c hpp
      rw [hd, hc, ← Nat.mul_assoc, mean_mul (hp a ha ha0) (hl a ha).2 (hp b hb hb0) (hl b hb).2]
      rw [Nat.mul_comm 420, Nat.mul_assoc, Nat.mul_comm 420, ← Nat.mul_assoc]
theorem frF_scale (n : Nat) (X Y : Nat → Nat) {c d : Nat} (hc : 0 < c) (hd : 0 < d) (h : ∀ J, pc J = n → X J * c = Y J * d) (k : Nat) : fI (frF n X) none k = fI (frF n Y) none k := by
  have hlt : ∀ J b, pc J = n → pc b = n → (X J < X b ↔ Y J < Y b) := by
    intro J b hJ hb
    have h1 := h J hJ
    have h2 := h b hb
    constructor
    · intro hh
      have : X J * c < X b * c := Nat.mul_lt_mul_of_pos_right hh hc
      rw [h1, h2] at this
      exact Nat.lt_of_mul_lt_mul_right this
    · intro hh
      have : Y J * d < Y b * d := Nat.mul_lt_mul_of_pos_right hh hd
      rw [← h1, ← h2] at this
      exact Nat.lt_of_mul_lt_mul_right this
  induction k with
  | zero => rfl
  | succ k ih =>
    simp only [fI]
    rw [ih]
    cases hg : fI (frF n Y) none k with
    | none => unfold frF; rfl
    | some b =>
      have hb := (frF_lt hg).2
      unfold frF
      by_cases hp : pc k = n
      · rw [if_pos hp, if_pos hp]
        simp only []
        by_cases hx : X k < X b
        · rw [if_pos hx, if_pos ((hlt k b hp hb).mp hx)]
        · rw [if_neg hx, if_neg (fun hh => hx ((hlt k b hp hb).mpr hh))]
      · rw [if_neg hp, if_neg hp]
theorem frF_some {n : Nat} {X : Nat → Nat} {J k : Nat} (hJ : J < k) (hp : pc J = n) : ∃ b, fI (frF n X) none k = some b := by
  induction k with
  | zero => omega
  | succ k ih =>
    simp only [fI]
    by_cases e : J = k
    · subst e
      generalize fI (frF n X) none J = o
      unfold frF
      rw [if_pos hp]
      cases o with
      | none => exact ⟨J, rfl⟩
      | some c => simp only []; split
                  · exact ⟨J, rfl⟩
                  · exact ⟨c, rfl⟩
    · obtain ⟨b, hb⟩ := ih (by omega)
      rw [show fI (frF n X) none k = some b from hb]
      unfold frF
      split
      · simp only []; split
        · exact ⟨k, rfl⟩
        · exact ⟨b, rfl⟩
      · exact ⟨b, rfl⟩
theorem pc_full : ∀ n : Fin 9, pc (2 ^ n.val - 1) = n.val := by decide +kernel
theorem pc_bit : ∀ J : Fin 256, pc J.val ≠ 0 → ∃ j : Fin 8, J.val.testBit j.val = true := by decide +kernel
section
variable {B : gm_I} {l nm nk nj ns : Nat}
theorem jur_iff {f : Nat → Bool} {v : Nat → Nat → Int32} {J j : Nat} (hj : j < nj) (hb : J.testBit j = true) (s : Nat) : 0 < vSu B nj f nm v J s ↔ 0 < vNu f nm v s := by
  unfold vSu vNu
  exact gN_pos _ _ _ s nm (fun a _ _ => vTn_pos B (v a) _ J nj j hj hb)
theorem oMe_ap {S N : Nat → Nat} (hl : lanes S N) (hp : pos S N) {a b : Nat} (h1 : gw S N 3 = some a) (h2 : gl S N 3 = some b) : oMe S N (gw S N 3) - oMe S N (gl S N 3) = nI (gAp S N) := by
  unfold gAp
  rw [h1, h2]
  simp only [oMe]
  rw [nI_sub]
  obtain ⟨ha, ha0, ham⟩ := gw_max hp h1
  obtain ⟨hb, hb0, -⟩ := gl_min hp (by decide) h2
  have hm := mean_lt (S := S) (hp b hb hb0) (hl b hb).2 (hp a ha ha0) (hl a ha).2
  have hh := ham b hb
  have : ¬ gMean S N a < gMean S N b := fun hx => by
    have := hm.mp hx
    omega
  omega
theorem M_jury_loop (hR : iRoll B l nm nk nj ns) (hr : rRel (B 22) (B 116) nm nk ns) {m : Nat} (hm : m < nk) {n : Nat} (hn0 : n ≠ 0) (hn8' : n ≤ 8) (what : Int32) (hsp : ∃ a, a < nm ∧ cSpk B (nI m) a = true) (lm : gm_L) : ∀ (w J : Nat) (im : gm_I) (x7 : Value) (best least : Int32), J + w = 2 ^ nj → Off B im → (∀ j, j < 80 → im 117 j = B 116 j) → x7.category = 1 → (match fI (frF n (fun J => gAp (vSu B nj (cSpk B (nI m)) nm (dV B (B 22 75)) J) (vNu (cSpk B (nI m)) nm (dV B (B 22 75))))) none J with
      | none => best = -1
      | some b => best = nI b ∧ least = nI (gAp (vSu B nj (cSpk B (nI m)) nm (dV B (B 22 75)) b) (vNu (cSpk B (nI m)) nm (dV B (B 22 75))))) → ∃ im' best' least' x7', Off B im' ∧ gm_den 256 66 [.ref 84, .int (nI m), .int (nI n), .int what, .int best, .int least, .int (nI J), x7] [] 128 gm_RF im lm = gm_den 256 137 [.ref 84, .int (nI m), .int (nI n), .int what, .int best', .int least', .int (nI (2 ^ nj)), x7'] [] 128 gm_RF im' lm ∧ (match fI (frF n (fun J => gAp (vSu B nj (cSpk B (nI m)) nm (dV B (B 22 75)) J) (vNu (cSpk B (nI m)) nm (dV B (B 22 75))))) none (2 ^ nj) with
      | none => best' = -1
      | some b => best' = nI b ∧ least' = nI (gAp (vSu B nj (cSpk B (nI m)) nm (dV B (B 22 75)) b) (vNu (cSpk B (nI m)) nm (dV B (B 22 75))))) := by
  have hm7 := iR_nm hR
  have hn8 := iR_nj hR
  have hl2 := iR_l hR
  have hk5 := iR_nk hR
  have hns := iR_ns hR
  have h256 := i2pow8 hn8
  intro w
  induction w with
  | zero =>
    intro J im x7 best least hw ho h117 c7 hm2
    have : J = 2 ^ nj := by omega
    subst this
    refine ⟨im, best, least, x7, ho, ?_, hm2⟩
    rw [LX12_jury_66]
    simp only [QX12_jury, iR_18 hR ho, i2 l hl2, iR_101 hR ho, pow2 (show nj < 9 by omega), nI_le (Nat.le_refl (2 ^ nj)) (show 2 ^ nj < 2 ^ 31 by omega), if_true]
  | succ w ih =>
    intro J im x7 best least hw ho h117 c7 hm2
    have hJ : J < 256 := by omega
    have hlt : ¬ nI (2 ^ nj) ≤ nI J := nI_ge (by omega) (by omega)
    have hbits := M_bits im lm hJ
    have hpc8 := pc_le ⟨J, hJ⟩
    simp only [] at hpc8
    by_cases hpc : pc J = n
    · have hix : nI (pc J) = nI n := by rw [hpc]
      obtain ⟨im1, h1, n1, t1⟩ := M_fillsN hR ho (rOk_eq hm7 (rRel_ok hns hr) h117) (nI m) 0 J (by decide) hJ lm
      have hsame : ∀ s, gN (mSpk im (nI m)) (mP im l) (fun a => mSm B im l nj a (b32 (Nat.testBit 0 a)) J) s nm = vSu B nj (cSpk B (nI m)) nm (dV B (B 22 75)) J s ∧ gN (mSpk im (nI m)) (mP im l) (fun _ => 1) s nm = vNu (cSpk B (nI m)) nm (dV B (B 22 75)) s := fun s => mSum_v 0 J (spk_eq hm7 hr h117 (nI m)) (v := dV B (B 22 75)) (fun a ha hf => by
        rw [slip0 0 rfl]; exact mV_d0 hR ho hr h117 ha (spk_ne hk5 hr hm ha hf)) s
      have t2 : tally im1 (vSu B nj (cSpk B (nI m)) nm (dV B (B 22 75)) J) (vNu (cSpk B (nI m)) nm (dV B (B 22 75))) := by
        intro s hs
        have := t1 s hs
        simp only [(hsame s).1, (hsame s).2] at this
        exact this
      obtain ⟨jj, hjj⟩ := pc_bit ⟨J, hJ⟩ (by simp only []; omega)
      simp only [] at hjj
      have hjn : jj.val < nj := by
        apply Classical.byContradiction
        intro hc
        have h9 : 2 ^ nj ≤ 2 ^ jj.val := Nat.pow_le_pow_right (by decide) (by omega)
        have : J.testBit jj.val = false := Nat.testBit_lt_two_pow (by omega)
        rw [this] at hjj; cases hjj
      have hiff : ∀ s, s < 3 → (0 < vSu B nj (cSpk B (nI m)) nm (dV B (B 22 75)) J s ↔ 0 < vNu (cSpk B (nI m)) nm (dV B (B 22 75)) s) := fun s _ => jur_iff hjn hjj s
      have hap := M_apartNow t2 hiff lm
      have hlan := vLanesJ (B := B) hn8 (cSpk B (nI m)) hm7 (dV B (B 22 75)) J
      have hpo := vPos (B := B) nj (cSpk B (nI m)) nm (dV B (B 22 75)) J
      -- somebody speaks: there is a greatest and a least
      have hex : ∃ s, s < 3 ∧ 0 < vSu B nj (cSpk B (nI m)) nm (dV B (B 22 75)) J s := by
        obtain ⟨a, ha, hf⟩ := hsp
        have hp3 := (pOk_eq (dV_cV B a 4 (by decide) (by decide)) (cV_pOk hR hr ha)).2
        refine ⟨pN (dV B (B 22 75) a), hp3, ?_⟩
        rw [jur_iff hjn hjj]
        unfold vNu
        have : ∀ n, a < n → 0 < gN (cSpk B (nI m)) (fun a => pN (dV B (B 22 75) a)) (fun _ => 1) (pN (dV B (B 22 75) a)) n := by
          intro n
          induction n with
          | zero => intro h; omega
          | succ n ihn =>
            intro h
            simp only [gN]
            by_cases e : a = n
            · subst e; simp [hf]
            · have := ihn (by omega)
              split <;> omega
        exact this nm ha
      obtain ⟨s0, hs0, hS0⟩ := hex
      have hgw : ∃ a, gw (vSu B nj (cSpk B (nI m)) nm (dV B (B 22 75)) J) (vNu (cSpk B (nI m)) nm (dV B (B 22 75))) 3 = some a := by
        cases hg : gw (vSu B nj (cSpk B (nI m)) nm (dV B (B 22 75)) J) (vNu (cSpk B (nI m)) nm (dV B (B 22 75))) 3 with
        | some a => exact ⟨a, rfl⟩
        | none =>
          rw [← gwl_gw _ _ 3 (by decide)] at hg
          have := gwl_none hg s0 hs0 (by have : s0 = 0 ∨ s0 = 1 ∨ s0 = 2 := by omega
                                         rcases this with rfl | rfl | rfl <;> decide)
          omega
      have hgl : ∃ b, gl (vSu B nj (cSpk B (nI m)) nm (dV B (B 22 75)) J) (vNu (cSpk B (nI m)) nm (dV B (B 22 75))) 3 = some b := by
        cases hg : gl (vSu B nj (cSpk B (nI m)) nm (dV B (B 22 75)) J) (vNu (cSpk B (nI m)) nm (dV B (B 22 75))) 3 with
        | some a => exact ⟨a, rfl⟩
        | none => have := gl_none hg s0 hs0; omega
      obtain ⟨ga, hga⟩ := hgw
      obtain ⟨gb', hgb⟩ := hgl
      rw [oMe_ap hlan hpo hga hgb] at hap
      have hapb : ∀ b, b < 256 → gAp (vSu B nj (cSpk B (nI m)) nm (dV B (B 22 75)) b) (vNu (cSpk B (nI m)) nm (dV B (B 22 75))) ≤ 211680 := by
        intro b _
        unfold gAp
        cases hx : gw (vSu B nj (cSpk B (nI m)) nm (dV B (B 22 75)) b) (vNu (cSpk B (nI m)) nm (dV B (B 22 75))) 3 with
        | none => simp
        | some a =>
          simp only []
          cases gl (vSu B nj (cSpk B (nI m)) nm (dV B (B 22 75)) b) (vNu (cSpk B (nI m)) nm (dV B (B 22 75))) 3 with
          | none => simp
          | some c =>
            have := gMean_le (N := vNu (cSpk B (nI m)) nm (dV B (B 22 75))) ((vLanesJ (B := B) hn8 (cSpk B (nI m)) hm7 (dV B (B 22 75)) b) a (gw_lt hx)).1
            simp only []
            omega
      have o1 := ho.tr n1.off
      have r1 : ∀ k, k < 80 → im1 117 k = B 116 k := fun k hk => by rw [n1.r]; exact h117 k hk
      rw [show (nI 0 : Int32) = 0 from rfl] at h1
      have e0 : gm_den 256 66 [.ref 84, .int (nI m), .int (nI n), .int what, .int best, .int least, .int (nI J), x7] [] 128 gm_RF im lm = gm_den 256 108 [.ref 84, .int (nI m), .int (nI n), .int what, .int best, .int least, .int (nI J), .int (nI (gAp (vSu B nj (cSpk B (nI m)) nm (dV B (B 22 75)) J) (vNu (cSpk B (nI m)) nm (dV B (B 22 75)))))] [] 128 gm_RF im1 lm := by
        rw [LX12_jury_66]
        simp (decide := true) only [QX12_jury, iR_18 hR ho, i2 l hl2, iR_101 hR ho, pow2 (show nj < 9 by omega), hlt, if_false, if_true, hbits, gm_cont_i, gm_cont_v, hix, h1, hap, gm_cat_i, c7]
      rw [e0]
      cases hg : fI (frF n (fun J => gAp (vSu B nj (cSpk B (nI m)) nm (dV B (B 22 75)) J) (vNu (cSpk B (nI m)) nm (dV B (B 22 75))))) none J with
      | none =>
        rw [hg] at hm2
        simp only [] at hm2
        subst hm2
        obtain ⟨im', best', least', x7', o', h', m'⟩ := ih (J + 1) im1 (.int (nI (gAp (vSu B nj (cSpk B (nI m)) nm (dV B (B 22 75)) J) (vNu (cSpk B (nI m)) nm (dV B (B 22 75)))))) (nI J) (nI (gAp (vSu B nj (cSpk B (nI m)) nm (dV B (B 22 75)) J) (vNu (cSpk B (nI m)) nm (dV B (B 22 75))))) (by omega) o1 r1 rfl (by
          rw [show fI (frF n (fun J => gAp (vSu B nj (cSpk B (nI m)) nm (dV B (B 22 75)) J) (vNu (cSpk B (nI m)) nm (dV B (B 22 75))))) none (J + 1) = some J by simp only [fI, hg, frF, hpc, if_true]]
          exact ⟨rfl, rfl⟩)
        refine ⟨im', best', least', x7', o', ?_, m'⟩
        rw [← h']
        simp (decide := true) only [QX12_jury, if_true, nI_a1]
      | some b =>
        rw [hg] at hm2
        simp only [] at hm2
        obtain ⟨rfl, rfl⟩ := hm2
        obtain ⟨hb1, hb2⟩ := frF_lt hg
        have hbn : ¬ nI b < 0 := nI_nlt (Nat.zero_le b) (by omega)
        have a1 := hapb J hJ
        have a2 := hapb b (by omega)
        by_cases hc : gAp (vSu B nj (cSpk B (nI m)) nm (dV B (B 22 75)) J) (vNu (cSpk B (nI m)) nm (dV B (B 22 75))) < gAp (vSu B nj (cSpk B (nI m)) nm (dV B (B 22 75)) b) (vNu (cSpk B (nI m)) nm (dV B (B 22 75)))
        · obtain ⟨im', best', least', x7', o', h', m'⟩ := ih (J + 1) im1 (.int (nI (gAp (vSu B nj (cSpk B (nI m)) nm (dV B (B 22 75)) J) (vNu (cSpk B (nI m)) nm (dV B (B 22 75)))))) (nI J) (nI (gAp (vSu B nj (cSpk B (nI m)) nm (dV B (B 22 75)) J) (vNu (cSpk B (nI m)) nm (dV B (B 22 75))))) (by omega) o1 r1 rfl (by
            rw [show fI (frF n (fun J => gAp (vSu B nj (cSpk B (nI m)) nm (dV B (B 22 75)) J) (vNu (cSpk B (nI m)) nm (dV B (B 22 75))))) none (J + 1) = some J by simp only [fI, hg, frF, hpc, hc, if_true]]
            exact ⟨rfl, rfl⟩)
          refine ⟨im', best', least', x7', o', ?_, m'⟩
          rw [← h']
          have hx := nI_lt hc (show gAp (vSu B nj (cSpk B (nI m)) nm (dV B (B 22 75)) b) (vNu (cSpk B (nI m)) nm (dV B (B 22 75))) < 2 ^ 31 by omega)
          simp (decide := true) only [QX12_jury, hbn, hx, if_true, if_false, nI_a1]
        · obtain ⟨im', best', least', x7', o', h', m'⟩ := ih (J + 1) im1 (.int (nI (gAp (vSu B nj (cSpk B (nI m)) nm (dV B (B 22 75)) J) (vNu (cSpk B (nI m)) nm (dV B (B 22 75)))))) (nI b) (nI (gAp (vSu B nj (cSpk B (nI m)) nm (dV B (B 22 75)) b) (vNu (cSpk B (nI m)) nm (dV B (B 22 75))))) (by omega) o1 r1 rfl (by
            rw [show fI (frF n (fun J => gAp (vSu B nj (cSpk B (nI m)) nm (dV B (B 22 75)) J) (vNu (cSpk B (nI m)) nm (dV B (B 22 75))))) none (J + 1) = some b by simp only [fI, hg, frF, hpc, hc, if_true, if_false]]
            exact ⟨rfl, rfl⟩)
          refine ⟨im', best', least', x7', o', ?_, m'⟩
          rw [← h']
          have hx : ¬ nI (gAp (vSu B nj (cSpk B (nI m)) nm (dV B (B 22 75)) J) (vNu (cSpk B (nI m)) nm (dV B (B 22 75)))) < nI (gAp (vSu B nj (cSpk B (nI m)) nm (dV B (B 22 75)) b) (vNu (cSpk B (nI m)) nm (dV B (B 22 75)))) := nI_nlt (by omega) (by omega)
          simp (decide := true) only [QX12_jury, hbn, hx, if_true, if_false, nI_a1]
    · have hx : ¬ nI (pc J) = nI n := fun e => hpc (by
        have h1 := nI_clamp (show pc J < 2 ^ 31 by omega)
        rw [e, nI_clamp (by omega)] at h1
        exact h1.symm)
      have e : fI (frF n (fun J => gAp (vSu B nj (cSpk B (nI m)) nm (dV B (B 22 75)) J) (vNu (cSpk B (nI m)) nm (dV B (B 22 75))))) none (J + 1) = fI (frF n (fun J => gAp (vSu B nj (cSpk B (nI m)) nm (dV B (B 22 75)) J) (vNu (cSpk B (nI m)) nm (dV B (B 22 75))))) none J := by simp [fI, frF, hpc]
      obtain ⟨im', best', least', x7', o', h', m'⟩ := ih (J + 1) im x7 best least (by omega) ho h117 c7 (by rw [e]; exact hm2)
      refine ⟨im', best', least', x7', o', ?_, m'⟩
      rw [← h', LX12_jury_66]
      simp (decide := true) only [QX12_jury, iR_18 hR ho, i2 l hl2, iR_101 hR ho, pow2 (show nj < 9 by omega), hlt, if_false, if_true, hbits, gm_cont_i, hx, nI_a1]
end
theorem A_jury (m n w : Int32) : Agr 130 256 [.ref 0, .int m, .int n, .int w, .null] [.ref 84, .int m, .int n, .int w, .null, .null, .null, .null] := by
  refine agrQ ?_
  intro B lm l nm nk nj ns hI
  obtain ⟨hR, hr, -⟩ := hI
  have hm7 := iR_nm hR
  have hn8 := iR_nj hR
  have hk5 := iR_nk hR
  have hl2 := iR_l hR
  have n1 : Value.category .null = 1 := rfl
  cases hg : okI nk m with
  | false =>
    refine ⟨-1, ⟨B, lm, ?_, Off.rf B, LK.rf lm⟩, fun im lm1 ho hk => ⟨im, lm1, ?_, ho, hk⟩⟩
    · simp (decide := true) only [QX11_jury, Cg_mot hR (Off.rf B), hg, b32_f, gm_cont_i, if_true, if_false]
    · simp (decide := true) only [QX12_jury, Mg_mot hR ho, hg, b32_f, gm_cont_i, if_true, if_false]
  | true =>
    by_cases hn1 : n < 1
    · refine ⟨-1, ⟨B, lm, ?_, Off.rf B, LK.rf lm⟩, fun im lm1 ho hk => ⟨im, lm1, ?_, ho, hk⟩⟩
      · simp (decide := true) only [QX11_jury, Cg_mot hR (Off.rf B), hg, b32_t, gm_cont_i, if_true, if_false, hn1]
      · have : ¬ (1 ≤ n ∧ n ≤ 8) := fun h => Int32.not_le.mpr hn1 h.1
        simp (decide := true) only [QX12_jury, Mg_mot hR ho, M_in, hg, b32_t, gm_cont_i, if_true, if_false, this]
    · by_cases hn2 : 8 < n
      · refine ⟨-1, ⟨B, lm, ?_, Off.rf B, LK.rf lm⟩, fun im lm1 ho hk => ⟨im, lm1, ?_, ho, hk⟩⟩
        · simp (decide := true) only [QX11_jury, Cg_mot hR (Off.rf B), hg, b32_t, gm_cont_i, if_true, if_false, hn1, hn2]
        · have : ¬ (1 ≤ n ∧ n ≤ 8) := fun h => Int32.not_le.mpr hn2 h.2
          simp (decide := true) only [QX12_jury, Mg_mot hR ho, M_in, hg, b32_t, gm_cont_i, if_true, if_false, this]
      · have hin : (1 ≤ n ∧ n ≤ 8) := ⟨Int32.not_lt.mp hn1, Int32.not_lt.mp hn2⟩
        cases hg2 : okI 2 w with
        | false =>
          have hw2 : ¬ (0 ≤ w ∧ w ≤ 1) := fun h => by
            have := (okI_le (n := 2) (by decide) w).mp h
            rw [hg2] at this; cases this
          refine ⟨-1, ⟨B, lm, ?_, Off.rf B, LK.rf lm⟩, fun im lm1 ho hk => ⟨im, lm1, ?_, ho, hk⟩⟩
          · rcases okI_f hg2 with h | ⟨h, h2⟩
            · simp (decide := true) only [QX11_jury, Cg_mot hR (Off.rf B), hg, b32_t, gm_cont_i, if_true, if_false, hn1, hn2, h]
            · have h3 : ¬ w ≤ 1 := fun hh => hw2 ⟨Int32.not_lt.mp h, hh⟩
              simp (decide := true) only [QX11_jury, Cg_mot hR (Off.rf B), hg, b32_t, gm_cont_i, if_true, if_false, hn1, hn2, h, h3]
          · simp (decide := true) only [QX12_jury, Mg_mot hR ho, M_in, hg, b32_t, gm_cont_i, if_true, if_false, hin, hw2, and_self]
        | true =>
          have hw0 : ¬ w < 0 := (okI_tt hg2).1
          have hw1 : w ≤ 1 := ((okI_le (n := 2) (by decide) w).mpr hg2).2
          have hww : (0 ≤ w ∧ w ≤ 1) := ⟨Int32.not_lt.mp hw0, hw1⟩
          have hn0 : ¬ n < 0 := fun h => hn1 (Int32.lt_of_lt_of_le h (by decide))
          obtain ⟨q, hq, rfl⟩ := nI_of hn0
          have hq1 : q ≠ 0 := fun h => hn1 (by subst h; decide)
          have hq8 : q ≤ 8 := by
            apply Classical.byContradiction
            intro hc
            exact hn2 (nI_lt (a := 8) (by omega) hq)
          obtain ⟨j, hj, rfl⟩ := okI_t (by omega) hg
          by_cases hnn : nj < q
          · have hx : nI nj < nI q := nI_lt hnn (by omega)
            refine ⟨-2, ⟨B, lm, ?_, Off.rf B, LK.rf lm⟩, fun im lm1 ho hk => ?_⟩
            · simp (decide := true) only [QX11_jury, Cg_mot hR (Off.rf B), hg, b32_t, gm_cont_i, if_true, if_false, hn1, hn2, hw0, hw1, iR_114 hR (Off.rf B), hx]
            · obtain ⟨jm1, c1, p1, r1, -, -⟩ := M_copies hR ho lm1
              refine ⟨jm1, lm1, ?_, p1, hk⟩
              simp (decide := true) only [QX12_jury, Mg_mot hR ho, M_in, hg, b32_t, gm_cont_i, gm_cont_v, if_true, if_false, hin, hww, and_self, c1, iR_18 hR p1, i2 l hl2, iR_101 hR p1, hx]
          · have hx : ¬ nI nj < nI q := nI_nlt (by omega) (by omega)
            have hM := gM_128 (cSpk B (nI j)) hm7
            by_cases h0 : gM (cSpk B (nI j)) nm = 0
            · refine ⟨-2, ⟨B, lm, ?_, Off.rf B, LK.rf lm⟩, fun im lm1 ho hk => ?_⟩
              · simp (decide := true) only [QX11_jury, Cg_mot hR (Off.rf B), hg, b32_t, gm_cont_i, if_true, if_false, hn1, hn2, hw0, hw1, iR_114 hR (Off.rf B), hx, C_speakersOn hR (Off.rf B), h0]
              · obtain ⟨jm1, c1, p1, r1, -, -⟩ := M_copies hR ho lm1
                refine ⟨jm1, lm1, ?_, p1, hk⟩
                simp (decide := true) only [QX12_jury, Mg_mot hR ho, M_in, hg, b32_t, gm_cont_i, gm_cont_v, if_true, if_false, hin, hww, and_self, c1, iR_18 hR p1, i2 l hl2, iR_101 hR p1, hx, M_speakers hR p1, sp_eq hm7 hr r1, h0]
            · have h00 : ¬ nI (gM (cSpk B (nI j)) nm) = 0 := nI_ne0 (by omega) (by omega)
              have hsp : ∃ a, a < nm ∧ cSpk B (nI j) a = true := by
                apply Classical.byContradiction
                intro hc
                apply h0
                have : ∀ n, n ≤ nm → gM (cSpk B (nI j)) n = 0 := by
                  intro n
                  induction n with
                  | zero => intro _; rfl
                  | succ n ih =>
                    intro hn
                    have hf : cSpk B (nI j) n = false := by
                      cases hf : cSpk B (nI j) n with
                      | false => rfl
                      | true => exact absurd ⟨n, by omega, hf⟩ hc
                    simp [gM, hf, ih (by omega)]
                exact this nm (Nat.le_refl _)
              obtain ⟨im1, lm1, h1, o1, d1, e1, f1⟩ := C_gatherD hR (Off.rf B) (nI j) lm
              obtain ⟨im2, lm2, h2, o2, f2, -, s2, e2⟩ := C_gatherJurors hR o1 d1 lm1
              have hpk : ∀ a, a < nm → cSpk B (nI j) a = true → pOk (dV B (B 22 75) a) := fun a ha _ => pOk_eq (dV_cV B a 4 (by decide) (by decide)) (cV_pOk hR hr ha)
              have hbag : ∀ J, lm2 71 12 + gL (fun j => J.testBit j) (lm2 78) nj = bag (vSu B nj (cSpk B (nI j)) nm (dV B (B 22 75)) J) (vNu (cSpk B (nI j)) nm (dV B (B 22 75))) := fun J => by
                rw [← bagJ hn8 (cSpk B (nI j)) (dV B (B 22 75)) hpk J, s2]
                congr 1
                exact gL_ext (fun _ _ => rfl) (fun k hk _ => e2 k hk)
              have h3 := C_fairest hR im2 o2 lm2 q hq1 hq8 (fun J => vSu B nj (cSpk B (nI j)) nm (dV B (B 22 75)) J) (vNu (cSpk B (nI j)) nm (dV B (B 22 75))) (fun J _ => ⟨vLanesJ (B := B) hn8 (cSpk B (nI j)) hm7 (dV B (B 22 75)) J, vPos (B := B) nj (cSpk B (nI j)) nm (dV B (B 22 75)) J, hbag J⟩)
              have hsc := frF_scale q (fun J => gAp (vSu B nj (cSpk B (nI j)) nm (dV B (B 22 75)) J) (vNu (cSpk B (nI j)) nm (dV B (B 22 75)))) (fun J => gEx (vSu B nj (cSpk B (nI j)) nm (dV B (B 22 75)) J) (vNu (cSpk B (nI j)) nm (dV B (B 22 75)))) (c := gall (vNu (cSpk B (nI j)) nm (dV B (B 22 75))) 3) (d := 420) (gall_pos _) (by decide) (fun J _ => ap_ex (vLanesJ (B := B) hn8 (cSpk B (nI j)) hm7 (dV B (B 22 75)) J) (vPos (B := B) nj (cSpk B (nI j)) nm (dV B (B 22 75)) J)) (2 ^ nj)
              obtain ⟨b, hb⟩ := frF_some (n := q) (X := fun J => gEx (vSu B nj (cSpk B (nI j)) nm (dV B (B 22 75)) J) (vNu (cSpk B (nI j)) nm (dV B (B 22 75)))) (J := 2 ^ q - 1) (k := 2 ^ nj) (by
                have h9 : 2 ^ q ≤ 2 ^ nj := Nat.pow_le_pow_right (by decide) (by omega)
                have h8 := Nat.pow_pos (n := q) (show 0 < 2 by decide)
                omega) (pc_full ⟨q, by omega⟩)
              have hb' : fI (frF q (fun J => gAp (vSu B nj (cSpk B (nI j)) nm (dV B (B 22 75)) J) (vNu (cSpk B (nI j)) nm (dV B (B 22 75))))) none (2 ^ nj) = some b := hsc.trans hb
              rw [hb] at h3
              have hbl := (frF_lt hb).1
              have h256 := i2pow8 hn8
              have h4 := C_bagOf hR im2 o2 lm2 b (by omega)
              rw [hbag] at h4
              have hla := vLanesJ (B := B) hn8 (cSpk B (nI j)) hm7 (dV B (B 22 75)) b
              have hpo := vPos (B := B) nj (cSpk B (nI j)) nm (dV B (B 22 75)) b
              have h5 := C_apart hla hpo im2 lm2
              have hfr := ((f1.mo (K := [71, 73, 78]) (by decide)).tr (f2.mo (by decide))).lk (by decide) (by decide)
              have hM2 : ∀ (im : gm_I) (lmx : gm_L), Off B im → LK lm lmx → ∃ im1, Off B im1 ∧ ∃ x7', gm_den 256 0 [.ref 84, .int (nI j), .int (nI q), .int w, .null, .null, .null, .null] [] 128 gm_RF im lmx = gm_den 256 137 [.ref 84, .int (nI j), .int (nI q), .int w, .int (nI b), .int (nI (gAp (vSu B nj (cSpk B (nI j)) nm (dV B (B 22 75)) b) (vNu (cSpk B (nI j)) nm (dV B (B 22 75))))), .int (nI (2 ^ nj)), x7'] [] 128 gm_RF im1 lmx := by
                intro im lmx ho hk
                obtain ⟨jm1, c1, p1, r1, -, -⟩ := M_copies hR ho lmx
                obtain ⟨jm2, be, le, x7', o5, h6, m6⟩ := M_jury_loop hR hr hj hq1 hq8 w hsp lmx (2 ^ nj) 0 jm1 .null (-1) 0 (by omega) p1 r1 rfl rfl
                rw [hb'] at m6
                simp only [] at m6
                obtain ⟨rfl, rfl⟩ := m6
                refine ⟨jm2, o5, x7', ?_⟩
                rw [← h6]
                simp (decide := true) only [QX12_jury, Mg_mot hR ho, M_in, hg, b32_t, gm_cont_i, gm_cont_v, if_true, if_false, hin, hww, and_self, c1, iR_18 hR p1, i2 l hl2, iR_101 hR p1, hx, M_speakers hR p1, sp_eq hm7 hr r1, h00, gm_cat_i, n1]
                rfl
              by_cases hwz : w = 0
              · refine ⟨nI b, ⟨im2, lm2, ?_, o2, hfr⟩, fun im lmx ho hk => ?_⟩
                · simp (decide := true) only [QX11_jury, Cg_mot hR (Off.rf B), hg, b32_t, gm_cont_i, gm_cont_v, if_true, if_false, hn1, hn2, hw0, hw1, iR_114 hR (Off.rf B), hx, C_speakersOn hR (Off.rf B), h00, dayB (Off.rf B), h1, h2, h3, eO, gm_cat_i, n1, hwz]
                · obtain ⟨jm, o5, x7', h6⟩ := hM2 im lmx ho hk
                  refine ⟨jm, lmx, ?_, o5, hk⟩
                  rw [h6]
                  simp (decide := true) only [QX12_jury, hwz, if_true, if_false]
              · -- the two ends
                have hex : ∃ s, s < 3 ∧ 0 < vNu (cSpk B (nI j)) nm (dV B (B 22 75)) s := by
                  obtain ⟨a, ha, hf⟩ := hsp
                  refine ⟨pN (dV B (B 22 75) a), (hpk a ha hf).2, ?_⟩
                  unfold vNu
                  have : ∀ n, a < n → 0 < gN (cSpk B (nI j)) (fun a => pN (dV B (B 22 75) a)) (fun _ => 1) (pN (dV B (B 22 75) a)) n := by
                    intro n
                    induction n with
                    | zero => intro h; omega
                    | succ n ihn =>
                      intro h
                      simp only [gN]
                      by_cases e : a = n
                      · subst e; simp [hf]
                      · have := ihn (by omega)
                        split <;> omega
                  exact this nm ha
                have e9 : nI (gAp (vSu B nj (cSpk B (nI j)) nm (dV B (B 22 75)) b) (vNu (cSpk B (nI j)) nm (dV B (B 22 75)))) * 100 / 420 = gApart (vSu B nj (cSpk B (nI j)) nm (dV B (B 22 75)) b) (vNu (cSpk B (nI j)) nm (dV B (B 22 75))) := by
                  generalize vSu B nj (cSpk B (nI j)) nm (dV B (B 22 75)) b = S at *
                  generalize vNu (cSpk B (nI j)) nm (dV B (B 22 75)) = N at *
                  unfold gAp gApart
                  cases hg1 : gw S N 3 with
                  | none => show nI 0 * 100 / 420 = (0 : Int32); decide
                  | some x =>
                    simp only []
                    cases hg3 : gl S N 3 with
                    | none => show nI 0 * 100 / 420 = (0 : Int32); decide
                    | some y =>
                      simp only []
                      obtain ⟨ha, ha0, -⟩ := gw_max hpo hg1
                      obtain ⟨hb, hb0, -⟩ := gl_min hpo (by decide) hg3
                      have g1 := gMean_le (N := N) (hla x ha).1
                      rw [show (100 : Int32) = nI 100 from rfl, show (420 : Int32) = nI 420 from rfl, nI_mul, nI_div (by omega) (by decide) (by decide), lead_num (hpo x ha ha0) (hla x ha).2 (hpo y hb hb0) (hla y hb).2]
                refine ⟨gApart (vSu B nj (cSpk B (nI j)) nm (dV B (B 22 75)) b) (vNu (cSpk B (nI j)) nm (dV B (B 22 75))), ⟨im2, lm2, ?_, o2, hfr⟩, fun im lmx ho hk => ?_⟩
                · simp (decide := true) only [QX11_jury, Cg_mot hR (Off.rf B), hg, b32_t, gm_cont_i, gm_cont_v, gm_cont_l, if_true, if_false, hn1, hn2, hw0, hw1, iR_114 hR (Off.rf B), hx, C_speakersOn hR (Off.rf B), h00, dayB (Off.rf B), h1, h2, h3, eO, gm_cat_i, n1, hwz, h4, h5]
                · obtain ⟨jm, o5, x7', h6⟩ := hM2 im lmx ho hk
                  refine ⟨jm, lmx, ?_, o5, hk⟩
                  rw [h6]
                  simp (decide := true) only [QX12_jury, hwz, if_true, if_false, e9]
