/-! questions: choose, chosen -/
def chB (B : gm_I) (m side : Int32) (a : Nat) : Bool := cSpk B m a && decide (B 22 (10 * a + 0) = side)
theorem gc_gc (B : gm_I) (f : Nat → Bool) (nm : Nat) (side : Int32) : ∀ a, a ≤ nm → gc (pkP B f nm side) (gc f a) = gc (fun b => f b && decide (B 22 (10 * b + 0) = side)) a := by
  intro a
  induction a with
  | zero => intro _; rfl
  | succ a ih =>
    intro ha
    have ih1 := ih (by omega)
    by_cases hf : f a = true
    · have hp : pkP B f nm side (gc f a) = decide (B 22 (10 * a + 0) = side) := by
        unfold pkP; rw [wh_gc f (show a < nm by omega) hf]
      have e1 : gc f (a + 1) = gc f a + 1 := by simp [gc, hf]
      rw [e1]
      by_cases hs : B 22 (10 * a + 0) = side
      · have hp2 : pkP B f nm side (gc f a) = true := by rw [hp]; simpa using hs
        have e2 : gc (pkP B f nm side) (gc f a + 1) = gc (pkP B f nm side) (gc f a) + 1 := by simp only [gc, hp2, if_true]
        have e3 : gc (fun b => f b && decide (B 22 (10 * b + 0) = side)) (a + 1) = gc (fun b => f b && decide (B 22 (10 * b + 0) = side)) a + 1 := by
          simp only [gc]; rw [if_pos (by rw [hf, ← hp, hp2]; rfl)]
        rw [e2, e3, ih1]
      · have hp2 : pkP B f nm side (gc f a) = false := by rw [hp]; simpa using hs
        have e2 : gc (pkP B f nm side) (gc f a + 1) = gc (pkP B f nm side) (gc f a) := by simp only [gc, hp2]; rfl
        have e3 : gc (fun b => f b && decide (B 22 (10 * b + 0) = side)) (a + 1) = gc (fun b => f b && decide (B 22 (10 * b + 0) = side)) a := by
          simp only [gc]; rw [if_neg (by rw [hf, ← hp, hp2]; decide)]
        rw [e2, e3, ih1]
    · have e1 : gc f (a + 1) = gc f a := by simp [gc, hf]
      have e3 : gc (fun b => f b && decide (B 22 (10 * b + 0) = side)) (a + 1) = gc (fun b => f b && decide (B 22 (10 * b + 0) = side)) a := by
        simp only [gc]; rw [if_neg (by simp [hf])]
      rw [e1, e3, ih1]
/-- one of those who choose, at his place in the row -/
def chJ (B : gm_I) (m side : Int32) (nm j : Nat) : Prop := 28 ≤ j ∧ j < 28 + nm ∧ chB B m side (j - 28) = true ∧ gc (chB B m side) (j - 28) < 3
section
variable {B : gm_I} {l nm nk nj ns : Nat}
theorem M_cs_loop (hR : iRoll B l nm nk nj ns) (hr : rRel (B 22) (B 116) nm nk ns) (m side : Int32) (lm : gm_L) : ∀ (w a : Nat) (im : gm_I) (x4 : Value), a + w = nm → Off B im → (∀ j, j < 80 → im 117 j = B 116 j) → im 84 57 = nI (min 3 (gc (chB B m side) a)) → (∀ k, k < min 3 (gc (chB B m side) a) → im 121 k = nI (wh (chB B m side) nm k)) → ∃ im', Off B im' ∧ (∀ j, j < 80 → im' 117 j = B 116 j) ∧ im' 84 57 = nI (min 3 (gc (chB B m side) nm)) ∧ (∀ k, k < min 3 (gc (chB B m side) nm) → im' 121 k = nI (wh (chB B m side) nm k)) ∧ gm_den 249 11 [.ref 84, .int m, .int side, .int (nI a), x4] [] 128 gm_RF im lm = gm_den 249 84 [.ref 84, .int m, .int side, .int (nI nm), x4] [] 128 gm_RF im' lm := by
  have hm7 := iR_nm hR
  have hl2 := iR_l hR
  intro w
  induction w with
  | zero =>
    intro a im x4 hw ho h117 h57 h121
    have : a = nm := by omega
    subst this
    refine ⟨im, ho, h117, h57, h121, ?_⟩
    rw [LX12_fillsChosen_11]
    simp only [QX12_fillsChosen, iR_18 hR ho, i2 l hl2, iR_94 hR ho, nI_le (Nat.le_refl a) (show a < 2 ^ 31 by omega), if_true]
  | succ w ih =>
    intro a im x4 hw ho h117 h57 h121
    have ha : a < nm := by omega
    have ha7 : a < 7 := by omega
    have hlt : ¬ nI nm ≤ nI a := nI_ge (by omega) (by omega)
    have e21 : im 117 (21 + a) = B 22 (10 * a + 3) := by rw [h117 _ (by omega), (rR_top hr ha).1]
    have e0 : im 117 a = B 22 (10 * a + 0) := by rw [h117 _ (by omega), (rR_side hr ha).1]
    have skip : gc (chB B m side) (a + 1) = gc (chB B m side) a ∨ 3 ≤ gc (chB B m side) a → ∃ im', Off B im' ∧ (∀ j, j < 80 → im' 117 j = B 116 j) ∧ im' 84 57 = nI (min 3 (gc (chB B m side) nm)) ∧ (∀ k, k < min 3 (gc (chB B m side) nm) → im' 121 k = nI (wh (chB B m side) nm k)) ∧ gm_den 249 11 [.ref 84, .int m, .int side, .int (nI (a + 1)), x4] [] 128 gm_RF im lm = gm_den 249 84 [.ref 84, .int m, .int side, .int (nI nm), x4] [] 128 gm_RF im' lm := by
      intro h
      have hmono := gc_mono (chB B m side) (show a ≤ a + 1 by omega)
      have e : min 3 (gc (chB B m side) (a + 1)) = min 3 (gc (chB B m side) a) := by
        rcases h with h | h
        · rw [h]
        · omega
      exact ih (a + 1) im x4 (by omega) ho h117 (by rw [e]; exact h57) (by rw [e]; exact h121)
    rw [LX12_fillsChosen_11]
    by_cases hb : B 22 (10 * a + 3) = m
    · by_cases hs : B 22 (10 * a + 0) = side
      · have hch : chB B m side a = true := by
          unfold chB cSpk
          rw [hb, hs]
          simp
        by_cases h3 : 3 ≤ gc (chB B m side) a
        · obtain ⟨im', o', r', a', b', h'⟩ := skip (Or.inr h3)
          refine ⟨im', o', r', a', b', ?_⟩
          rw [← h']
          have e3 : im 84 57 = 3 := by rw [h57, Nat.min_eq_left h3]; rfl
          simp (decide := true) only [QX12_fillsChosen, iR_18 hR ho, i2 l hl2, iR_94 hR ho, hlt, if_false, if_true, ixr7 a ha7, e21, e0, hb, hs, e3, nI_a1]
        · have hk3 : gc (chB B m side) a < 3 := by omega
          have e57 : im 84 57 = nI (gc (chB B m side) a) := by rw [h57, Nat.min_eq_right (by omega)]
          have hne : ¬ nI (gc (chB B m side) a) = 3 := fun e => by
            have h9 := nI_clamp (show gc (chB B m side) a < 2 ^ 31 by omega)
            rw [e] at h9
            have : (3 : Int32).toNatClampNeg = 3 := by decide
            omega
          have gcs : gc (chB B m side) (a + 1) = gc (chB B m side) a + 1 := by simp [gc, hch]
          let X := gm_up (gm_up im 121 (gc (chB B m side) a) (nI a)) 84 57 (nI (gc (chB B m side) a + 1))
          have oX : Off B X := (ho.up rfl (by decide)).up84 rfl
          obtain ⟨im', o', r', a', b', h'⟩ := ih (a + 1) X x4 (by omega) oX (fun j hj => by
            show gm_up (gm_up im 121 _ _) 84 57 _ 117 j = _
            rw [gu_ne (by decide), gu_ne (by decide)]; exact h117 j hj) (by
            show gm_up (gm_up im 121 _ _) 84 57 _ 84 57 = _
            rw [gu_eq, gcs, Nat.min_eq_right (by omega)]) (by
            intro k hk
            rw [gcs, Nat.min_eq_right (by omega)] at hk
            show gm_up (gm_up im 121 _ _) 84 57 _ 121 k = _
            rw [gu_ne (by decide)]
            by_cases e : k = gc (chB B m side) a
            · subst e; rw [gu_eq, wh_gc (chB B m side) ha hch]
            · rw [gu_nk e]; exact h121 k (by omega))
          refine ⟨im', o', r', a', b', ?_⟩
          rw [← h']
          have e57b : gm_up im 121 (gc (chB B m side) a) (nI a) 84 57 = nI (gc (chB B m side) a) := by rw [gu_ne (by decide)]; exact e57
          simp (decide := true) only [QX12_fillsChosen, iR_18 hR ho, i2 l hl2, iR_94 hR ho, hlt, if_false, if_true, ixr7 a ha7, e21, e0, hb, hs, e57, hne, i3 (gc (chB B m side) a) hk3, gm_cat_r, e57b, nI_a1]
          rfl
      · have hch : chB B m side a = false := by
          unfold chB
          have : decide (B 22 (10 * a + 0) = side) = false := by simpa using hs
          rw [this]; simp
        obtain ⟨im', o', r', a', b', h'⟩ := skip (Or.inl (by simp [gc, hch]))
        refine ⟨im', o', r', a', b', ?_⟩
        rw [← h']
        simp (decide := true) only [QX12_fillsChosen, iR_18 hR ho, i2 l hl2, iR_94 hR ho, hlt, if_false, if_true, ixr7 a ha7, e21, e0, hb, hs, nI_a1]
    · have hch : chB B m side a = false := by unfold chB cSpk; simp [hb]
      obtain ⟨im', o', r', a', b', h'⟩ := skip (Or.inl (by simp [gc, hch]))
      refine ⟨im', o', r', a', b', ?_⟩
      rw [← h']
      simp (decide := true) only [QX12_fillsChosen, iR_18 hR ho, i2 l hl2, iR_94 hR ho, hlt, if_false, if_true, ixr7 a ha7, e21, hb, nI_a1]
theorem M_sets_loop (hR : iRoll B l nm nk nj ns) (m side : Int32) {K way : Nat} (hK : K = min 3 (gc (chB B m side) nm)) (hway : way < 64) (R : Nat → Int32) (lm : gm_L) : ∀ (w k : Nat) (im : gm_I), k + w = K → im 84 57 = nI K → (∀ i, i < K → im 121 i = nI (wh (chB B m side) nm i)) → (∀ j, j < 80 → (chJ B m side nm j ∧ gc (chB B m side) (j - 28) < k → im 117 j = nI (way / 4 ^ (K - 1 - gc (chB B m side) (j - 28)) % 4)) ∧ (¬ (chJ B m side nm j ∧ gc (chB B m side) (j - 28) < k) → im 117 j = R j)) → ∃ im', gm_den 248 2 [.ref 84, .int (nI way), .int (nI k)] [] 128 gm_RF im lm = some (none, 128, gm_RF, im', lm) ∧ Fr [117] im im' ∧ (∀ j, j < 80 → (chJ B m side nm j ∧ gc (chB B m side) (j - 28) < K → im' 117 j = nI (way / 4 ^ (K - 1 - gc (chB B m side) (j - 28)) % 4)) ∧ (¬ (chJ B m side nm j ∧ gc (chB B m side) (j - 28) < K) → im' 117 j = R j)) := by
  have hm7 := iR_nm hR
  intro w
  induction w with
  | zero =>
    intro k im hw h57 h121 hr
    have : k = K := by omega
    subst this
    refine ⟨im, ?_, Fr.rf _ _, hr⟩
    rw [LX12_setsManners_2]
    simp only [QX12_setsManners, h57, nI_le (Nat.le_refl k) (show k < 2 ^ 31 by omega), if_true]
  | succ w ih =>
    intro k im hw h57 h121 hr
    have hk3 : k < 3 := by omega
    have hkg : k < gc (chB B m side) nm := by omega
    obtain ⟨w1, w2, w3⟩ := wh_ok (chB B m side) hkg
    have hlt : ¬ nI K ≤ nI k := nI_ge (by omega) (by omega)
    generalize hA : wh (chB B m side) nm k = a at *
    have h121k := h121 k (by omega)
    rw [hA] at h121k
    obtain ⟨im', h1, h2, h3⟩ := ih (k + 1) (gm_up im 117 (28 + a) (nI (way / 4 ^ (K - 1 - k) % 4))) (by omega) (by rw [gu_ne (by decide)]; exact h57) (fun i hi => by rw [gu_ne (by decide)]; exact h121 i hi) (by
      intro j hj
      by_cases e : j = 28 + a
      · subst e
        rw [gu_eq]
        rw [Nat.add_sub_cancel_left, w3]
        refine ⟨fun _ => rfl, fun hn => absurd ⟨⟨by omega, by omega, by rw [Nat.add_sub_cancel_left]; exact w2, by rw [Nat.add_sub_cancel_left, w3]; omega⟩, by omega⟩ hn⟩
      · rw [gu_nk e]
        have hiff : (chJ B m side nm j ∧ gc (chB B m side) (j - 28) < k + 1) ↔ (chJ B m side nm j ∧ gc (chB B m side) (j - 28) < k) := by
          constructor
          · intro ⟨h1, h2⟩
            refine ⟨h1, ?_⟩
            by_cases e2 : gc (chB B m side) (j - 28) = k
            · have := wh_gc (chB B m side) (show j - 28 < nm by have := h1.2.1; omega) h1.2.2.1
              rw [e2, hA] at this
              exact absurd (show j = 28 + a by have := h1.1; omega) e
            · omega
          · intro ⟨h1, h2⟩; exact ⟨h1, by omega⟩
        rw [hiff]
        exact hr j hj)
    refine ⟨im', ?_, Fr.tr ((Fr.rf _ im).up (by simp)) h2, h3⟩
    rw [LX12_setsManners_2]
    simp only [QX12_setsManners, h57, hlt, if_false, i3 k hk3, if_true, h121k, ixr7 a (show a < 7 by omega), mann (show K ≤ 3 by omega) (show k < K by omega) hway, nI_a1]
    exact h1
/-- the row in a way of manners -/
def cmR (B X : gm_I) (m side : Int32) (nm K way : Nat) : Prop := ∀ j, j < 80 → (chJ B m side nm j → X 117 j = nI (way / 4 ^ (K - 1 - gc (chB B m side) (j - 28)) % 4)) ∧ (¬ chJ B m side nm j → X 117 j = B 116 j)
theorem cm_chance (hR : iRoll B l nm nk nj ns) (hr : rRel (B 22) (B 116) nm nk ns) {m : Nat} (hm : m < nk) (side : Int32) {X : gm_I} (oX : Off B X) {K way : Nat} (hX : cmR B X (nI m) side nm K way) : kX B nj (cSpk B (nI m)) nm (B 22 75) (pkP B (cSpk B (nI m)) nm side) K side way = fI (ofF B X l nm nj (nI m) side) 0 128 ∧ rOk (X 117) nm ns := by
  have hm7 := iR_nm hR
  have hk5 := iR_nk hR
  have g : ∀ j, j < 80 → (j < 28 ∨ 35 ≤ j) → X 117 j = B 116 j := fun j hj hc => (hX j hj).2 (fun h => by have := h.1; have := h.2.1; omega)
  constructor
  · unfold kX
    apply chance_eq hR
    · intro a ha
      unfold mSpk cSpk
      rw [g (21 + a) (by omega) (by omega), (rR_top hr ha).1]
    · intro a ha hf t
      refine (mV_cVx hR oX hr ha (g a (by omega) (by omega)) (g _ (by omega) (by omega)) (g _ (by omega) (by omega)) (g _ (by omega) (by omega)) (g _ (by omega) (by omega)) (g _ (by omega) (by omega)) (X 117 (28 + a)) _).tr ?_
      have hsp := spk_ne hk5 hr hm ha hf
      have h28 := hX (28 + a) (by omega)
      have hgg := gc_gc B (cSpk B (nI m)) nm side a (by omega)
      have hpp : pkP B (cSpk B (nI m)) nm side (gc (cSpk B (nI m)) a) = decide (B 22 (10 * a + 0) = side) := by
        unfold pkP; rw [wh_gc _ ha hf]
      have fin : ∀ sl : Int32, vEq (upd (upd (cV B a) 5 (X 117 (28 + a))) 6 sl) (kV B (cSpk B (nI m)) nm (B 22 75) (pkP B (cSpk B (nI m)) nm side) K way (gc (cSpk B (nI m)) a) sl) := by
        intro sl
        unfold kV
        rw [wh_gc _ ha hf, hpp, hgg]
        by_cases hc : (decide (B 22 (10 * a + 0) = side) = true) ∧ gc (fun b => cSpk B (nI m) b && decide (B 22 (10 * b + 0) = side)) a < 3
        · rw [if_pos hc]
          have hj : chJ B (nI m) side nm (28 + a) := ⟨by omega, by omega, by rw [Nat.add_sub_cancel_left]; unfold chB; rw [hf, hc.1]; rfl, by rw [Nat.add_sub_cancel_left]; exact hc.2⟩
          have e := h28.1 hj
          rw [Nat.add_sub_cancel_left] at e
          rw [e]
          show vEq _ (upd (upd (dV B (B 22 75) a) 5 _) 6 sl)
          exact ((dV_cV B a).sy.up 5 _).up 6 sl
        · rw [if_neg hc]
          have e := h28.2 (fun hj => hc (by
            obtain ⟨_, _, h3, h4⟩ := hj
            rw [Nat.add_sub_cancel_left] at h3 h4
            unfold chB at h3
            rw [hf, Bool.true_and] at h3
            exact ⟨h3, h4⟩))
          have h5 : B 116 (28 + a) = cV B a 5 := by
            rcases rR_man hr ha with ⟨e, -⟩ | ⟨-, e, -⟩
            · exact absurd e hsp
            · simp [cV, e]
          rw [e, h5]
          refine vEq.up ?_ 6 sl
          refine vEq.tr ?_ (dV_cV B a).sy
          intro i _ _
          unfold upd
          by_cases e5 : i = 5 <;> simp [e5]
      by_cases hb : t.testBit a = true
      · rw [hb, if_pos rfl]; exact fin 1
      · simp only [Bool.not_eq_true] at hb
        rw [hb, if_neg (by decide)]; exact fin 0
  · have hok := rRel_ok (iR_ns hR) hr
    refine ⟨fun a ha => ?_, fun a ha => ?_⟩
    · rw [g a (by omega) (by omega), g (7 + a) (by omega) (by omega)]; exact hok.1 a ha
    · rw [g (49 + a) (by omega) (by omega), g (56 + a) (by omega) (by omega)]; exact hok.2 a ha
/-- what is chosen so far -/
def csS (X : Nat → Nat) (im : gm_I) (x : Option Nat) : Prop := match x with
  | none => im 84 58 = -1
  | some b => im 84 58 = nI b ∧ im 84 59 = nI (X b)
theorem M_way_loop (hR : iRoll B l nm nk nj ns) (hr : rRel (B 22) (B 116) nm nk ns) {m : Nat} (hm : m < nk) (side : Int32) {K : Nat} (hK : K = min 3 (gc (chB B (nI m) side) nm)) (lm : gm_L) : ∀ (w way : Nat) (im : gm_I) (x4 : Value), way + w = 4 ^ K → Off B im → im 84 57 = nI K → (∀ i, i < K → im 121 i = nI (wh (chB B (nI m) side) nm i)) → (∀ j, j < 80 → ¬ chJ B (nI m) side nm j → im 117 j = B 116 j) → csS (kX B nj (cSpk B (nI m)) nm (B 22 75) (pkP B (cSpk B (nI m)) nm side) K side) im (fI (pkF (kX B nj (cSpk B (nI m)) nm (B 22 75) (pkP B (cSpk B (nI m)) nm side) K side)) none way) → x4.category = 1 → ∃ im', gm_den 249 91 [.ref 84, .int (nI m), .int side, .int (nI way), x4] [] 128 gm_RF im lm = some (none, 128, gm_RF, im', lm) ∧ Off B im' ∧ im' 84 57 = nI K ∧ (∀ j, j < 80 → ¬ chJ B (nI m) side nm j → im' 117 j = B 116 j) ∧ csS (kX B nj (cSpk B (nI m)) nm (B 22 75) (pkP B (cSpk B (nI m)) nm side) K side) im' (fI (pkF (kX B nj (cSpk B (nI m)) nm (B 22 75) (pkP B (cSpk B (nI m)) nm side) K side)) none (4 ^ K)) := by
  have hm7 := iR_nm hR
  have hK3 : K ≤ 3 := by omega
  have h64 := p4le hK3
  generalize hX : kX B nj (cSpk B (nI m)) nm (B 22 75) (pkP B (cSpk B (nI m)) nm side) K side = X
  intro w
  induction w with
  | zero =>
    intro way im x4 hw ho h57 h121 hr1 hc c4
    have : way = 4 ^ K := by omega
    subst this
    refine ⟨im, ?_, ho, h57, hr1, hc⟩
    rw [LX12_fillsChosen_91]
    simp only [QX12_fillsChosen, h57, pw4 hK3, nI_le (Nat.le_refl (4 ^ K)) (show 4 ^ K < 2 ^ 31 by omega), if_true]
  | succ w ih =>
    intro way im x4 hw ho h57 h121 hr1 hc c4
    have hlt : ¬ nI (4 ^ K) ≤ nI way := nI_ge (by omega) (by omega)
    obtain ⟨im1, h1, f1, s1⟩ := M_sets_loop hR (nI m) side hK (show way < 64 by omega) (im 117) lm K 0 im (by omega) h57 h121 (fun j hj => ⟨fun h => absurd h.2 (by omega), fun _ => rfl⟩)
    have o1 : Off B im1 := ho.tr (f1.off (by decide))
    have hlt3 : ∀ j, chJ B (nI m) side nm j → gc (chB B (nI m) side) (j - 28) < K := fun j hj => by
      have h8 := gc_lt (chB B (nI m) side) (show j - 28 < nm by have := hj.2.1; have := hj.1; omega) hj.2.2.1
      have := hj.2.2.2
      omega
    have hcm : cmR B im1 (nI m) side nm K way := fun j hj => ⟨fun h => (s1 j hj).1 ⟨h, hlt3 j h⟩, fun h => by rw [(s1 j hj).2 (fun hh => h hh.1)]; exact hr1 j hj h⟩
    obtain ⟨hch, hok⟩ := cm_chance (nj := nj) hR hr hm side o1 hcm
    rw [hX] at hch
    obtain ⟨im2, h2, n2⟩ := M_oftenFalls hR o1 hok (nI m) side lm
    rw [← hch] at h2
    have o2 := o1.tr n2.off
    have k57 : im2 84 57 = nI K := by rw [n2.2 57 (by decide), f1 84 (by decide)]; exact h57
    have k58 : im2 84 58 = im 84 58 := by rw [n2.2 58 (by decide), f1 84 (by decide)]
    have k59 : im2 84 59 = im 84 59 := by rw [n2.2 59 (by decide), f1 84 (by decide)]
    have k121 : ∀ i, i < K → im2 121 i = nI (wh (chB B (nI m) side) nm i) := fun i hi => by rw [n2.1 121 (by decide) (by decide) (by decide) (by decide) (by decide), f1 121 (by decide)]; exact h121 i hi
    have k117 : ∀ j, j < 80 → ¬ chJ B (nI m) side nm j → im2 117 j = B 116 j := fun j hj h => by rw [n2.r]; exact (hcm j hj).2 h
    have hbd : ∀ k, X k ≤ 1280000000 := by
      intro k
      rw [← hX]
      have hle := gc_le (cSpk B (nI m)) nm
      have h9 := chF_le side (fun s => gW B (cSpk B (nI m)) nm s (gc (cSpk B (nI m)) nm)) (fun s => vFall B nj (cSpk B (nI m)) nm (fun a => if s.testBit (gc (cSpk B (nI m)) a) then kV B (cSpk B (nI m)) nm (B 22 75) (pkP B (cSpk B (nI m)) nm side) K k (gc (cSpk B (nI m)) a) 1 else kV B (cSpk B (nI m)) nm (B 22 75) (pkP B (cSpk B (nI m)) nm side) K k (gc (cSpk B (nI m)) a) 0)) (10 ^ 7) (2 ^ gc (cSpk B (nI m)) nm) (fun s _ => Nat.le_trans (gW_le hR (cSpk B (nI m)) s (gc (cSpk B (nI m)) nm) (Nat.le_refl _)) (p107 (show gc (cSpk B (nI m)) nm ≤ 7 by omega)))
      have h8 : 10 ^ 7 * 2 ^ gc (cSpk B (nI m)) nm ≤ 10 ^ 7 * 128 := Nat.mul_le_mul_left _ (p27 (show gc (cSpk B (nI m)) nm ≤ 7 by omega))
      unfold kX
      omega
    have n1 : Value.category .null = 1 := rfl
    have h1' : gm_den 248 0 [.ref 84, .int (nI way), .null] [] 128 gm_RF im lm = some (none, 128, gm_RF, im1, lm) := by
      rw [← h1]
      simp only [QX12_setsManners, gm_cat_i, n1]
      rfl
    have e0 : gm_den 249 91 [.ref 84, .int (nI m), .int side, .int (nI way), x4] [] 128 gm_RF im lm = gm_den 249 116 [.ref 84, .int (nI m), .int side, .int (nI way), .int (nI (X way))] [] 128 gm_RF im2 lm := by
      rw [LX12_fillsChosen_91]
      simp only [QX12_fillsChosen, h57, pw4 hK3, hlt, if_false, h1', gm_cont_v, h2, gm_cont_i, gm_cat_i, c4]
    rw [e0]
    let Y := gm_up (gm_up im2 84 58 (nI way)) 84 59 (nI (X way))
    have oY : Off B Y := (o2.up84 rfl).up84 rfl
    have take : fI (pkF X) none (way + 1) = some way → ∃ im', gm_den 249 91 [.ref 84, .int (nI m), .int side, .int (nI (way + 1)), .int (nI (X way))] [] 128 gm_RF Y lm = some (none, 128, gm_RF, im', lm) ∧ Off B im' ∧ im' 84 57 = nI K ∧ (∀ j, j < 80 → ¬ chJ B (nI m) side nm j → im' 117 j = B 116 j) ∧ csS X im' (fI (pkF X) none (4 ^ K)) := by
      intro e
      apply ih (way + 1) Y (.int (nI (X way))) (by omega) oY
      · show gm_up (gm_up im2 84 58 _) 84 59 _ 84 57 = _
        rw [gu_nk (by decide), gu_nk (by decide)]; exact k57
      · intro i hi
        show gm_up (gm_up im2 84 58 _) 84 59 _ 121 i = _
        rw [gu_ne (by decide), gu_ne (by decide)]; exact k121 i hi
      · intro j hj h
        show gm_up (gm_up im2 84 58 _) 84 59 _ 117 j = _
        rw [gu_ne (by decide), gu_ne (by decide)]; exact k117 j hj h
      · rw [e]
        refine ⟨?_, gu_eq⟩
        show gm_up (gm_up im2 84 58 _) 84 59 _ 84 58 = _
        rw [gu_nk (by decide), gu_eq]
      · rfl
    cases hg : fI (pkF X) none way with
    | none =>
      rw [hg] at hc
      have hc' : im2 84 58 = -1 := by rw [k58]; exact hc
      obtain ⟨im', a1, a2, a3, a4, a5⟩ := take (by simp only [fI, hg, pkF])
      refine ⟨im', ?_, a2, a3, a4, a5⟩
      rw [← a1]
      simp (decide := true) only [QX12_fillsChosen, hc', if_true, nI_a1]
      rfl
    | some b =>
      rw [hg] at hc
      have hb := pkF_lt hg
      have c58 : im2 84 58 = nI b := by rw [k58]; exact hc.1
      have c59 : im2 84 59 = nI (X b) := by rw [k59]; exact hc.2
      have hbn : ¬ nI b < 0 := nI_nlt (Nat.zero_le b) (by omega)
      have x1 := hbd way
      have x2 := hbd b
      by_cases hcm2 : X b < X way
      · obtain ⟨im', a1, a2, a3, a4, a5⟩ := take (by simp only [fI, hg, pkF, hcm2, if_true])
        refine ⟨im', ?_, a2, a3, a4, a5⟩
        rw [← a1]
        have hx : nI (X b) < nI (X way) := nI_lt hcm2 (by omega)
        simp (decide := true) only [QX12_fillsChosen, c58, c59, hbn, hx, if_true, if_false, nI_a1]
        rfl
      · obtain ⟨im', a1, a2, a3, a4, a5⟩ := ih (way + 1) im2 (.int (nI (X way))) (by omega) o2 k57 k121 k117 (by
          rw [show fI (pkF X) none (way + 1) = some b by simp only [fI, hg, pkF, hcm2, if_false]]
          exact ⟨c58, c59⟩) rfl
        refine ⟨im', ?_, a2, a3, a4, a5⟩
        rw [← a1]
        have hx : ¬ nI (X b) < nI (X way) := nI_nlt (by omega) (by omega)
        simp (decide := true) only [QX12_fillsChosen, c58, c59, hbn, hx, if_true, if_false, nI_a1]
theorem M_fillsChosen {im : gm_I} (hR : iRoll B l nm nk nj ns) (hr : rRel (B 22) (B 116) nm nk ns) {m : Nat} (hm : m < nk) (side : Int32) {K : Nat} (hK : K = min 3 (gc (chB B (nI m) side) nm)) (ho : Off B im) (lm : gm_L) : ∃ im', gm_den 249 0 [.ref 84, .int (nI m), .int side, .null, .null] [] 128 gm_RF im lm = some (none, 128, gm_RF, im', lm) ∧ Off B im' ∧ im' 84 57 = nI K ∧ (∀ j, j < 80 → ¬ chJ B (nI m) side nm j → im' 117 j = B 116 j) ∧ csS (kX B nj (cSpk B (nI m)) nm (B 22 75) (pkP B (cSpk B (nI m)) nm side) K side) im' (fI (pkF (kX B nj (cSpk B (nI m)) nm (B 22 75) (pkP B (cSpk B (nI m)) nm side) K side)) none (4 ^ K)) := by
  obtain ⟨jm1, c1, p1, r1, -, -⟩ := M_copies hR ho lm
  obtain ⟨jm2, p2, r2, a2, b2, h2⟩ := M_cs_loop hR hr (nI m) side lm nm 0 (gm_up jm1 84 57 0) .null (by omega) (p1.up84 rfl) (fun j hj => by rw [gu_ne (by decide)]; exact r1 j hj) gu_eq (fun k hk => by simp [gc] at hk)
  rw [← hK] at a2 b2
  obtain ⟨jm3, h3, p3, a3, r3, s3⟩ := M_way_loop (nj := nj) hR hr hm side hK lm (4 ^ K) 0 (gm_up jm2 84 58 (-1)) .null (by omega) (p2.up84 rfl) (by rw [gu_nk (by decide)]; exact a2) (fun i hi => by rw [gu_ne (by decide)]; exact b2 i hi) (fun j hj _ => by rw [gu_ne (by decide)]; exact r2 j hj) gu_eq rfl
  refine ⟨jm3, ?_, p3, a3, r3, s3⟩
  have n1 : Value.category .null = 1 := rfl
  have e0 : gm_den 249 0 [.ref 84, .int (nI m), .int side, .null, .null] [] 128 gm_RF im lm = gm_den 249 11 [.ref 84, .int (nI m), .int side, .int (nI 0), .null] [] 128 gm_RF (gm_up jm1 84 57 0) lm := by
    simp only [QX12_fillsChosen, c1, gm_cont_v, gm_cat_i, n1]
    rfl
  rw [e0, h2, ← h3]
  simp only [QX12_fillsChosen, gm_cat_i, n1]
  rfl
end
