/-! the class: speeches turned by a slip, an oath, a mumble -/
theorem C_turnBySlip_loop {B : gm_I} {l nm nk nj ns : Nat} (hR : iRoll B l nm nk nj ns) (m da : Int32) : ∀ (w i : Nat) (im : gm_I) (lm : gm_L), i + w = gc (cSpk B m) nm → Off B im → dW (cSpk B m) nm da im → (∀ j, j < i → lm 74 j = ent B nj (upd (upd (cV B (wh (cSpk B m) nm j)) 8 da) 6 1)) → ∃ im' lm', gm_den 4 2 [.ref 71, .int (nI i)] [] 128 gm_RF im lm = some (none, 128, gm_RF, im', lm') ∧ Off B im' ∧ dW (cSpk B m) nm da im' ∧ dE (cSpk B m) nm (fun b => ent B nj (upd (upd (cV B b) 8 da) 6 1)) (lm' 74) ∧ Fr [74] lm lm' ∧ Fr [19, 69, 70] im im' := by
  intro w
  have hm7 := iR_nm hR
  have hle := gc_le (cSpk B m) nm
  induction w with
  | zero =>
    intro i im lm hw ho hd he
    have : i = gc (cSpk B m) nm := by omega
    subst this
    refine ⟨im, lm, ?_, ho, hd, he, Fr.rf _ _, Fr.rf _ _⟩
    rw [LX0_turnBySlip_2]
    simp only [QX0_turnBySlip, hd.1, nI_le (Nat.le_refl _) (show gc (cSpk B m) nm < 2 ^ 31 by omega), if_true]
  | succ w ih =>
    intro i im lm hw ho hd he
    have hlt : ¬ nI (gc (cSpk B m) nm) ≤ nI i := nI_ge (by omega) (by omega)
    have hi7 : i < 7 := by omega
    obtain ⟨hb1, hb2, hb3⟩ := wh_ok (cSpk B m) (show i < gc (cSpk B m) nm by omega)
    have h72 := hd.2.2 i (by omega)
    generalize hb : wh (cSpk B m) nm i = b at *
    rw [LX0_turnBySlip_2]
    let im2 := gm_up (cTake im b) 69 8 (im 71 5)
    have hts := C_takeSp (lm := lm) hi7 (show b < 7 by omega) h72
    have fr2 : Fr [69] im im2 := (cTake_fr im b).up (by simp)
    have ho2 : Off B im2 := ho.tr (fr2.off (by decide))
    have hv2 : vEq (im2 69) (upd (cV B b) 8 da) := by
      show vEq (gm_up (cTake im b) 69 8 (im 71 5) 69) _
      rw [gu_upd, hd.2.1]
      exact (cTake_v ho b).up 8 da
    let im3 := gm_up (gm_up (cTake im b) 69 8 (im 71 5)) 69 6 1
    have fr3 : Fr [69] im2 im3 := ((Fr.rf [69] im2).up (by simp))
    have hv3 : vEq (im3 69) (upd (upd (cV B b) 8 da) 6 1) := by
      show vEq ((gm_up (im2) 69 6 1) 69) _
      rw [gu_upd]
      exact (hv2.up 6 1)
    have ho3 : Off B im3 := ho2.tr (fr3.off (by decide))
    obtain ⟨im4, h4, f4⟩ := C_entB hR ho3 hv3 lm
    have ho4 : Off B im4 := ho3.tr (f4.off fr19)
    have fr4 : Fr [19, 69, 70] im im4 := ((fr2.mo (by decide)).tr (fr3.mo (by decide))).tr (f4.mo (by decide))
    have hd4 : dW (cSpk B m) nm da im4 := by
      unfold dW
      rw [fr4 71 (by decide), fr4 72 (by decide)]
      exact hd
    let lm4 := gm_up lm 74 i (ent B nj (upd (upd (cV B b) 8 da) 6 1))
    obtain ⟨im', lm', h5, h6, h7, h8, h9, h10⟩ := ih (i + 1) im4 lm4 (by omega) ho4 hd4 (by
      intro j hj
      show gm_up lm 74 i _ 74 j = _
      by_cases e : j = i
      · subst e; rw [gu_eq, hb]
      · rw [gu_nk e]; exact he j (by omega))
    refine ⟨im', lm', ?_, h6, h7, h8, (show Fr [74] lm lm4 from (Fr.rf _ lm).up (by simp)).tr h9, fr4.tr h10⟩
    simp only [QX0_turnBySlip, hd.1, hlt, if_false, hts, gm_cont_v]
    rw [show gm_up (gm_up (cTake im b) 69 8 (im 71 5)) 69 6 1 = im3 from rfl, h4]
    simp only [QX0_turnBySlip, gm_cont_l, i7 i hi7, if_true, nI_a1]
    exact h5
theorem C_turnBySlip {B im : gm_I} {l nm nk nj ns : Nat} (hR : iRoll B l nm nk nj ns) (ho : Off B im) {m da : Int32} (hd : dW (cSpk B m) nm da im) (lm : gm_L) : ∃ im' lm', gm_den 4 0 [.ref 71, .null] [] 128 gm_RF im lm = some (none, 128, gm_RF, im', lm') ∧ Off B im' ∧ dW (cSpk B m) nm da im' ∧ dE (cSpk B m) nm (fun b => ent B nj (upd (upd (cV B b) 8 da) 6 1)) (lm' 74) ∧ Fr [74] lm lm' ∧ Fr [19, 69, 70] im im' := by
  obtain ⟨im', lm', h1, h2⟩ := C_turnBySlip_loop hR m da (gc (cSpk B m) nm) 0 im lm (by omega) ho hd (fun j hj => by omega)
  refine ⟨im', lm', ?_, h2⟩
  have n1 : Value.category .null = 1 := rfl
  simp only [QX0_turnBySlip, gm_cat_i, gm_cat_r, n1]
  exact h1
theorem C_turnByOath_loop {B : gm_I} {l nm nk nj ns : Nat} (hR : iRoll B l nm nk nj ns) (m da : Int32) : ∀ (w i : Nat) (im : gm_I) (lm : gm_L), i + w = gc (cSpk B m) nm → Off B im → dW (cSpk B m) nm da im → (∀ j, j < i → lm 74 j = ent B nj (upd (upd (upd (cV B (wh (cSpk B m) nm j)) 8 da) 4 (B 22 (10 * (wh (cSpk B m) nm j) + 0))) 9 1)) → ∃ im' lm', gm_den 5 2 [.ref 71, .int (nI i)] [] 128 gm_RF im lm = some (none, 128, gm_RF, im', lm') ∧ Off B im' ∧ dW (cSpk B m) nm da im' ∧ dE (cSpk B m) nm (fun b => ent B nj (upd (upd (upd (cV B b) 8 da) 4 (B 22 (10 * b + 0))) 9 1)) (lm' 74) ∧ Fr [74] lm lm' ∧ Fr [19, 69, 70] im im' := by
  intro w
  have hm7 := iR_nm hR
  have hle := gc_le (cSpk B m) nm
  induction w with
  | zero =>
    intro i im lm hw ho hd he
    have : i = gc (cSpk B m) nm := by omega
    subst this
    refine ⟨im, lm, ?_, ho, hd, he, Fr.rf _ _, Fr.rf _ _⟩
    rw [LX0_turnByOath_2]
    simp only [QX0_turnByOath, hd.1, nI_le (Nat.le_refl _) (show gc (cSpk B m) nm < 2 ^ 31 by omega), if_true]
  | succ w ih =>
    intro i im lm hw ho hd he
    have hlt : ¬ nI (gc (cSpk B m) nm) ≤ nI i := nI_ge (by omega) (by omega)
    have hi7 : i < 7 := by omega
    obtain ⟨hb1, hb2, hb3⟩ := wh_ok (cSpk B m) (show i < gc (cSpk B m) nm by omega)
    have h72 := hd.2.2 i (by omega)
    generalize hb : wh (cSpk B m) nm i = b at *
    rw [LX0_turnByOath_2]
    let im2 := gm_up (cTake im b) 69 8 (im 71 5)
    have hts := C_takeSp (lm := lm) hi7 (show b < 7 by omega) h72
    have fr2 : Fr [69] im im2 := (cTake_fr im b).up (by simp)
    have ho2 : Off B im2 := ho.tr (fr2.off (by decide))
    have hv2 : vEq (im2 69) (upd (cV B b) 8 da) := by
      show vEq (gm_up (cTake im b) 69 8 (im 71 5) 69) _
      rw [gu_upd, hd.2.1]
      exact (cTake_v ho b).up 8 da
    have hg := C_getN b 0 (by omega) (by decide) im2 lm
    rw [ho2.1 22 rfl] at hg
    rw [show (nI 0 : Int32) = 0 from rfl] at hg
    have h72b : im2 72 i = nI b := by rw [fr2 72 (by decide)]; exact h72
    let im3 := gm_up (gm_up (gm_up (cTake im b) 69 8 (im 71 5)) 69 4 (B 22 (10 * b + 0))) 69 9 1
    have fr3 : Fr [69] im2 im3 := (((Fr.rf [69] im2).up (by simp)).up (by simp))
    have hv3 : vEq (im3 69) (upd (upd (upd (cV B b) 8 da) 4 (B 22 (10 * b + 0))) 9 1) := by
      show vEq ((gm_up (gm_up (im2) 69 4 (B 22 (10 * b + 0))) 69 9 1) 69) _
      rw [gu_upd, gu_upd]
      exact ((hv2.up 4 (B 22 (10 * b + 0))).up 9 1)
    have ho3 : Off B im3 := ho2.tr (fr3.off (by decide))
    obtain ⟨im4, h4, f4⟩ := C_entB hR ho3 hv3 lm
    have ho4 : Off B im4 := ho3.tr (f4.off fr19)
    have fr4 : Fr [19, 69, 70] im im4 := ((fr2.mo (by decide)).tr (fr3.mo (by decide))).tr (f4.mo (by decide))
    have hd4 : dW (cSpk B m) nm da im4 := by
      unfold dW
      rw [fr4 71 (by decide), fr4 72 (by decide)]
      exact hd
    let lm4 := gm_up lm 74 i (ent B nj (upd (upd (upd (cV B b) 8 da) 4 (B 22 (10 * b + 0))) 9 1))
    obtain ⟨im', lm', h5, h6, h7, h8, h9, h10⟩ := ih (i + 1) im4 lm4 (by omega) ho4 hd4 (by
      intro j hj
      show gm_up lm 74 i _ 74 j = _
      by_cases e : j = i
      · subst e; rw [gu_eq, hb]
      · rw [gu_nk e]; exact he j (by omega))
    refine ⟨im', lm', ?_, h6, h7, h8, (show Fr [74] lm lm4 from (Fr.rf _ lm).up (by simp)).tr h9, fr4.tr h10⟩
    simp only [QX0_turnByOath, hd.1, hlt, if_false, hts, gm_cont_v]
    rw [show gm_up (cTake im b) 69 8 (im 71 5) = im2 from rfl]
    simp only [QX0_turnByOath, i7 i hi7, if_true, h72b, hg, gm_cont_i]
    rw [show gm_up (gm_up im2 69 4 (B 22 (10 * b + 0))) 69 9 1 = im3 from rfl, h4]
    simp only [QX0_turnByOath, gm_cont_l, i7 i hi7, if_true, nI_a1]
    exact h5
theorem C_turnByOath {B im : gm_I} {l nm nk nj ns : Nat} (hR : iRoll B l nm nk nj ns) (ho : Off B im) {m da : Int32} (hd : dW (cSpk B m) nm da im) (lm : gm_L) : ∃ im' lm', gm_den 5 0 [.ref 71, .null] [] 128 gm_RF im lm = some (none, 128, gm_RF, im', lm') ∧ Off B im' ∧ dW (cSpk B m) nm da im' ∧ dE (cSpk B m) nm (fun b => ent B nj (upd (upd (upd (cV B b) 8 da) 4 (B 22 (10 * b + 0))) 9 1)) (lm' 74) ∧ Fr [74] lm lm' ∧ Fr [19, 69, 70] im im' := by
  obtain ⟨im', lm', h1, h2⟩ := C_turnByOath_loop hR m da (gc (cSpk B m) nm) 0 im lm (by omega) ho hd (fun j hj => by omega)
  refine ⟨im', lm', ?_, h2⟩
  have n1 : Value.category .null = 1 := rfl
  simp only [QX0_turnByOath, gm_cat_i, gm_cat_r, n1]
  exact h1
theorem C_turnByMumble_loop {B : gm_I} {l nm nk nj ns : Nat} (hR : iRoll B l nm nk nj ns) (m da : Int32) : ∀ (w i : Nat) (im : gm_I) (lm : gm_L), i + w = gc (cSpk B m) nm → Off B im → dW (cSpk B m) nm da im → (∀ j, j < i → lm 74 j = ent B nj (upd (upd (cV B (wh (cSpk B m) nm j)) 8 da) 5 1)) → ∃ im' lm', gm_den 6 2 [.ref 71, .int (nI i)] [] 128 gm_RF im lm = some (none, 128, gm_RF, im', lm') ∧ Off B im' ∧ dW (cSpk B m) nm da im' ∧ dE (cSpk B m) nm (fun b => ent B nj (upd (upd (cV B b) 8 da) 5 1)) (lm' 74) ∧ Fr [74] lm lm' ∧ Fr [19, 69, 70] im im' := by
  intro w
  have hm7 := iR_nm hR
  have hle := gc_le (cSpk B m) nm
  induction w with
  | zero =>
    intro i im lm hw ho hd he
    have : i = gc (cSpk B m) nm := by omega
    subst this
    refine ⟨im, lm, ?_, ho, hd, he, Fr.rf _ _, Fr.rf _ _⟩
    rw [LX0_turnByMumble_2]
    simp only [QX0_turnByMumble, hd.1, nI_le (Nat.le_refl _) (show gc (cSpk B m) nm < 2 ^ 31 by omega), if_true]
  | succ w ih =>
    intro i im lm hw ho hd he
    have hlt : ¬ nI (gc (cSpk B m) nm) ≤ nI i := nI_ge (by omega) (by omega)
    have hi7 : i < 7 := by omega
    obtain ⟨hb1, hb2, hb3⟩ := wh_ok (cSpk B m) (show i < gc (cSpk B m) nm by omega)
    have h72 := hd.2.2 i (by omega)
    generalize hb : wh (cSpk B m) nm i = b at *
    rw [LX0_turnByMumble_2]
    let im2 := gm_up (cTake im b) 69 8 (im 71 5)
    have hts := C_takeSp (lm := lm) hi7 (show b < 7 by omega) h72
    have fr2 : Fr [69] im im2 := (cTake_fr im b).up (by simp)
    have ho2 : Off B im2 := ho.tr (fr2.off (by decide))
    have hv2 : vEq (im2 69) (upd (cV B b) 8 da) := by
      show vEq (gm_up (cTake im b) 69 8 (im 71 5) 69) _
      rw [gu_upd, hd.2.1]
      exact (cTake_v ho b).up 8 da
    let im3 := gm_up (gm_up (cTake im b) 69 8 (im 71 5)) 69 5 1
    have fr3 : Fr [69] im2 im3 := ((Fr.rf [69] im2).up (by simp))
    have hv3 : vEq (im3 69) (upd (upd (cV B b) 8 da) 5 1) := by
      show vEq ((gm_up (im2) 69 5 1) 69) _
      rw [gu_upd]
      exact (hv2.up 5 1)
    have ho3 : Off B im3 := ho2.tr (fr3.off (by decide))
    obtain ⟨im4, h4, f4⟩ := C_entB hR ho3 hv3 lm
    have ho4 : Off B im4 := ho3.tr (f4.off fr19)
    have fr4 : Fr [19, 69, 70] im im4 := ((fr2.mo (by decide)).tr (fr3.mo (by decide))).tr (f4.mo (by decide))
    have hd4 : dW (cSpk B m) nm da im4 := by
      unfold dW
      rw [fr4 71 (by decide), fr4 72 (by decide)]
      exact hd
    let lm4 := gm_up lm 74 i (ent B nj (upd (upd (cV B b) 8 da) 5 1))
    obtain ⟨im', lm', h5, h6, h7, h8, h9, h10⟩ := ih (i + 1) im4 lm4 (by omega) ho4 hd4 (by
      intro j hj
      show gm_up lm 74 i _ 74 j = _
      by_cases e : j = i
      · subst e; rw [gu_eq, hb]
      · rw [gu_nk e]; exact he j (by omega))
    refine ⟨im', lm', ?_, h6, h7, h8, (show Fr [74] lm lm4 from (Fr.rf _ lm).up (by simp)).tr h9, fr4.tr h10⟩
    simp only [QX0_turnByMumble, hd.1, hlt, if_false, hts, gm_cont_v]
    rw [show gm_up (gm_up (cTake im b) 69 8 (im 71 5)) 69 5 1 = im3 from rfl, h4]
    simp only [QX0_turnByMumble, gm_cont_l, i7 i hi7, if_true, nI_a1]
    exact h5
theorem C_turnByMumble {B im : gm_I} {l nm nk nj ns : Nat} (hR : iRoll B l nm nk nj ns) (ho : Off B im) {m da : Int32} (hd : dW (cSpk B m) nm da im) (lm : gm_L) : ∃ im' lm', gm_den 6 0 [.ref 71, .null] [] 128 gm_RF im lm = some (none, 128, gm_RF, im', lm') ∧ Off B im' ∧ dW (cSpk B m) nm da im' ∧ dE (cSpk B m) nm (fun b => ent B nj (upd (upd (cV B b) 8 da) 5 1)) (lm' 74) ∧ Fr [74] lm lm' ∧ Fr [19, 69, 70] im im' := by
  obtain ⟨im', lm', h1, h2⟩ := C_turnByMumble_loop hR m da (gc (cSpk B m) nm) 0 im lm (by omega) ho hd (fun j hj => by omega)
  refine ⟨im', lm', ?_, h2⟩
  have n1 : Value.category .null = 1 := rfl
  simp only [QX0_turnByMumble, gm_cat_i, gm_cat_r, n1]
  exact h1
