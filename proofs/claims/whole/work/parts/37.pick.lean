/-! the class: manners picked -/
theorem i3 (i : Nat) (hi : i < 3) : gm_in (nI i) 3 = true ∧ (nI i).toNatClampNeg = i := ⟨gm_in_nI hi (by decide), nI_clamp (by omega)⟩
theorem ix12 (k x : Nat) (hk : k < 3) (hx : x < 4) : gm_in (nI k * 4 + nI x) 12 = true ∧ (nI k * 4 + nI x).toNatClampNeg = 4 * k + x :=
  ix_nat (4 * k + x) (by rw [show (4 : Int32) = nI 4 from rfl, nI_mul, nI_add, Nat.mul_comm]) (by omega) (by decide)
theorem man_all : ∀ K : Fin 4, ∀ p : Fin 3, ∀ pick : Fin 64, p.val < K.val → (nI pick.val >>> ((2 * (nI K.val - 1 - nI p.val)) &&& 31)) &&& 3 = nI (pick.val / 4 ^ (K.val - 1 - p.val) % 4) := by decide +kernel
theorem mann {K p pick : Nat} (hK : K ≤ 3) (hp : p < K) (h : pick < 64) : (nI pick >>> ((2 * (nI K - 1 - nI p)) &&& 31)) &&& 3 = nI (pick / 4 ^ (K - 1 - p) % 4) := man_all ⟨K, by omega⟩ ⟨p, by omega⟩ ⟨pick, h⟩ hp
theorem pw4_all : ∀ K : Fin 4, (1 : Int32) <<< ((2 * nI K.val) &&& 31) = nI (4 ^ K.val) := by decide +kernel
theorem pw4 {K : Nat} (hK : K ≤ 3) : (1 : Int32) <<< ((2 * nI K) &&& 31) = nI (4 ^ K) := pw4_all ⟨K, by omega⟩
theorem p4le {K : Nat} (h : K ≤ 3) : 4 ^ K ≤ 64 := Nat.pow_le_pow_right (n := 4) (by decide) h
theorem C_mannerIn {im : gm_I} {K p pick : Nat} (hK : K ≤ 3) (hp : p < K) (h : pick < 64) (h14 : im 71 14 = nI K) (lm : gm_L) : gm_den 16 0 [.ref 71, .int (nI pick), .int (nI p)] [] 128 gm_RF im lm = some (some (.int (nI (pick / 4 ^ (K - 1 - p) % 4))), 128, gm_RF, im, lm) := by
  simp only [QX0_mannerIn, h14, mann hK hp h]
/-- a speech in another manner, slipped or not -/
def pV (V : Nat → Int32) (x : Nat) (sl : Int32) : Nat → Int32 := upd (upd V 5 (nI x)) 6 sl
def vE2 (v w : Nat → Int32) : Prop := ∀ i, 2 ≤ i → i ≤ 10 → i ≠ 5 → i ≠ 6 → v i = w i
theorem vE2_pV {v V : Nat → Int32} (h : vE2 v V) (x : Nat) (sl : Int32) : vEq (upd (upd v 5 (nI x)) 6 sl) (pV V x sl) := by
  intro i h1 h2
  unfold pV upd
  by_cases h6 : i = 6
  · simp [h6]
  · by_cases h5 : i = 5
    · simp [h5]
    · simp [h5, h6]; exact h i h1 h2 h5 h6
theorem vE2_up {v V : Nat → Int32} (h : vE2 v V) {k : Nat} (hk : k = 5 ∨ k = 6) (x : Int32) : vE2 (upd v k x) V := by
  intro i h1 h2 h5 h6
  unfold upd
  rw [if_neg (by rcases hk with rfl | rfl <;> assumption)]
  exact h i h1 h2 h5 h6
section
variable {B : gm_I} {l nm nk nj ns : Nat}
theorem C_gp_in (hR : iRoll B l nm nk nj ns) (V : Nat → Int32) (side i : Int32) {K : Nat} (hK : K < 3) : ∀ (w x : Nat) (im : gm_I) (lm : gm_L), x + w = 4 → Off B im → im 71 14 = nI K → vE2 (im 69) V → (∀ y, y < x → lm 80 (4 * K + y) = ent B nj (pV V y 0) ∧ lm 81 (4 * K + y) = ent B nj (pV V y 1)) → ∃ im' lm', gm_den 15 58 [.ref 71, .int side, .int i, .int (nI x)] [] 128 gm_RF im lm = gm_den 15 133 [.ref 71, .int side, .int i, .int (nI 4)] [] 128 gm_RF im' lm' ∧ Fr [19, 69, 70] im im' ∧ Fr [80, 81] lm lm' ∧ (∀ y, y < 4 → lm' 80 (4 * K + y) = ent B nj (pV V y 0) ∧ lm' 81 (4 * K + y) = ent B nj (pV V y 1)) ∧ ∀ t, t < 4 * K → lm' 80 t = lm 80 t ∧ lm' 81 t = lm 81 t := by
  intro w
  induction w with
  | zero =>
    intro x im lm hw ho h14 hv hl
    have : x = 4 := by omega
    subst this
    refine ⟨im, lm, ?_, Fr.rf _ _, Fr.rf _ _, hl, fun _ _ => ⟨rfl, rfl⟩⟩
    rw [LX0_gatherPickers_58]
    simp (decide := true) only [QX0_gatherPickers, if_true]
  | succ w ih =>
    intro x im lm hw ho h14 hv hl
    have hlt : ¬ (4 : Int32) ≤ nI x := nI_ge (b := 4) (by omega) (by decide)
    let im1 := gm_up (gm_up im 69 5 (nI x)) 69 6 0
    have f1 : Fr [69] im im1 := ((Fr.rf [69] im).up (by simp)).up (by simp)
    have ho1 : Off B im1 := ho.tr (f1.off (by decide))
    have hv1 : vEq (im1 69) (pV V x 0) := by
      show vEq (gm_up (gm_up im 69 5 (nI x)) 69 6 0 69) _
      rw [gu_upd, gu_upd]; exact vE2_pV hv x 0
    obtain ⟨im2, h2, f2⟩ := C_entB hR ho1 hv1 lm
    let im3 := gm_up im2 69 6 1
    let lm3 := gm_up lm 80 (4 * K + x) (ent B nj (pV V x 0))
    have f3 : Fr [69] im2 im3 := (Fr.rf [69] im2).up (by simp)
    have ho3 : Off B im3 := (ho1.tr (f2.off fr19)).tr (f3.off (by decide))
    have hv3 : vEq (im3 69) (pV V x 1) := by
      show vEq (gm_up im2 69 6 1 69) _
      rw [gu_upd]
      have e : vEq (im2 69) (pV V x 0) := by rw [f2 69 (by decide)]; exact hv1
      have e2 := e.up 6 1
      refine e2.tr ?_
      intro i _ _
      unfold pV upd
      by_cases h6 : i = 6 <;> simp [h6]
    obtain ⟨im4, h4, f4⟩ := C_entB hR ho3 hv3 lm3
    have f14 : Fr [19, 69, 70] im im4 := (((f1.mo (by decide)).tr (f2.mo (by decide))).tr (f3.mo (by decide))).tr (f4.mo (by decide))
    have f12 : Fr [19, 69, 70] im im2 := (f1.mo (by decide)).tr (f2.mo (by decide))
    let lm4 := gm_up lm3 81 (4 * K + x) (ent B nj (pV V x 1))
    obtain ⟨im', lm', h5, h6, h7, h8, h9⟩ := ih (x + 1) im4 lm4 (by omega) (ho.tr (f14.off (by decide))) (by rw [f14 71 (by decide)]; exact h14) (by
      have e4 : vEq (im4 69) (pV V x 1) := by rw [f4 69 (by decide)]; exact hv3
      intro i a b c d
      rw [e4 i a b]
      unfold pV upd
      simp [c, d]) (by
      intro y hy
      by_cases e : y = x
      · subst e
        exact ⟨by show gm_up (gm_up lm 80 _ _) 81 _ _ 80 _ = _; rw [gu_ne (by decide), gu_eq], by show gm_up (gm_up lm 80 _ _) 81 _ _ 81 _ = _; rw [gu_eq]⟩
      · have := hl y (by omega)
        exact ⟨by show gm_up (gm_up lm 80 _ _) 81 _ _ 80 _ = _; rw [gu_ne (by decide), gu_nk (by omega)]; exact this.1, by show gm_up (gm_up lm 80 _ _) 81 _ _ 81 _ = _; rw [gu_nk (by omega), gu_ne (by decide)]; exact this.2⟩)
    refine ⟨im', lm', ?_, f14.tr h6, Fr.tr (((Fr.rf _ lm).up (by simp)).up (by simp)) h7, h8, ?_⟩
    · rw [← h5, LX0_gatherPickers_58]
      have e14 : gm_up (gm_up im 69 5 (nI x)) 69 6 0 71 14 = nI K := by rw [gu_ne (by decide), gu_ne (by decide)]; exact h14
      have e14b : gm_up im2 69 6 1 71 14 = nI K := by rw [gu_ne (by decide), f12 71 (by decide)]; exact h14
      simp only [QX0_gatherPickers, hlt, if_false, e14]
      rw [show gm_up (gm_up im 69 5 (nI x)) 69 6 0 = im1 from rfl, h2]
      simp only [QX0_gatherPickers, gm_cont_l, ix12 K x hK (show x < 4 by omega), if_true, e14b]
      rw [show gm_up im2 69 6 1 = im3 from rfl, h4]
      simp only [QX0_gatherPickers, gm_cont_l, ix12 K x hK (show x < 4 by omega), if_true, nI_a1]
      rfl
    · intro t ht
      have := h9 t ht
      refine ⟨this.1.trans ?_, this.2.trans ?_⟩
      · show gm_up (gm_up lm 80 _ _) 81 _ _ 80 _ = _; rw [gu_ne (by decide), gu_nk (by omega)]
      · show gm_up (gm_up lm 80 _ _) 81 _ _ 81 _ = _; rw [gu_nk (by omega), gu_ne (by decide)]
/-- which of the speakers are of a side -/
def pkP (B : gm_I) (f : Nat → Bool) (nm : Nat) (side : Int32) (i : Nat) : Bool := decide (B 22 (10 * wh f nm i + 0) = side)
/-- gathered pickers -/
def pkS (B : gm_I) (f : Nat → Bool) (nm nj : Nat) (da : Int32) (p : Nat → Bool) (n K : Nat) (im : gm_I) (lm : gm_L) : Prop := im 71 14 = nI K ∧ ∀ k, k < K → im 79 k = nI (wh p n k) ∧ ∀ y, y < 4 → lm 80 (4 * k + y) = ent B nj (pV (dV B da (wh f nm (wh p n k))) y 0) ∧ lm 81 (4 * k + y) = ent B nj (pV (dV B da (wh f nm (wh p n k))) y 1)
theorem wh_mono (p : Nat → Bool) {a n k : Nat} (h : a ≤ n) (hk : k < gc p a) : wh p n k = wh p a k := by
  obtain ⟨h1, h2, h3⟩ := wh_ok p hk
  have := wh_gc p (n := n) (show wh p a k < n by omega) h2
  rw [h3] at this
  exact this
theorem C_gp_loop (hR : iRoll B l nm nk nj ns) (m da side : Int32) : ∀ (w i : Nat) (im : gm_I) (lm : gm_L) (x3 : Value), i + w = gc (cSpk B m) nm → Off B im → dW (cSpk B m) nm da im → gc (pkP B (cSpk B m) nm side) i ≤ 3 → pkS B (cSpk B m) nm nj da (pkP B (cSpk B m) nm side) i (gc (pkP B (cSpk B m) nm side) i) im lm → ∃ im' lm', gm_den 15 7 [.ref 71, .int side, .int (nI i), x3] [] 128 gm_RF im lm = some (none, 128, gm_RF, im', lm') ∧ Off B im' ∧ dW (cSpk B m) nm da im' ∧ pkS B (cSpk B m) nm nj da (pkP B (cSpk B m) nm side) (gc (cSpk B m) nm) (min 3 (gc (pkP B (cSpk B m) nm side) (gc (cSpk B m) nm))) im' lm' ∧ Fr [80, 81] lm lm' ∧ Fr [19, 69, 70, 71, 79] im im' := by
  intro w
  have hm7 := iR_nm hR
  have hle := gc_le (cSpk B m) nm
  induction w with
  | zero =>
    intro i im lm x3 hw ho hd h3 hk
    have : i = gc (cSpk B m) nm := by omega
    subst this
    refine ⟨im, lm, ?_, ho, hd, ?_, Fr.rf _ _, Fr.rf _ _⟩
    · rw [LX0_gatherPickers_7]
      simp only [QX0_gatherPickers, hd.1, nI_le (Nat.le_refl _) (show gc (cSpk B m) nm < 2 ^ 31 by omega), if_true]
    · rw [Nat.min_eq_right h3]; exact hk
  | succ w ih =>
    intro i im lm x3 hw ho hd h3 hk
    have hlt : ¬ nI (gc (cSpk B m) nm) ≤ nI i := nI_ge (by omega) (by omega)
    have hi7 : i < 7 := by omega
    obtain ⟨hb1, hb2, hb3⟩ := wh_ok (cSpk B m) (show i < gc (cSpk B m) nm by omega)
    have h72 := hd.2.2 i (by omega)
    generalize hp : pkP B (cSpk B m) nm side = p at *
    rw [LX0_gatherPickers_7]
    by_cases hK : gc p i = 3
    · -- no more room
      have hmono := gc_mono p (show i ≤ gc (cSpk B m) nm by omega)
      refine ⟨im, lm, ?_, ho, hd, ?_, Fr.rf _ _, Fr.rf _ _⟩
      · have h14 := hk.1
        rw [hK] at h14
        simp (decide := true) only [QX0_gatherPickers, hd.1, hlt, if_false, if_true, h14]
      · rw [Nat.min_eq_left (by omega)]
        rw [hK] at hk
        refine ⟨hk.1, fun k hk3 => ?_⟩
        rw [wh_mono p (show i ≤ gc (cSpk B m) nm by omega) (show k < gc p i by omega)]
        exact hk.2 k hk3
    · have hK3 : gc p i < 3 := by omega
      have h14 := hk.1
      have hlt3 : ¬ (3 : Int32) ≤ nI (gc p i) := nI_ge (b := 3) hK3 (by decide)
      have hg := C_getN (wh (cSpk B m) nm i) 0 (by omega) (by decide) im lm
      rw [ho.1 22 rfl] at hg
      rw [show (nI 0 : Int32) = 0 from rfl] at hg
      by_cases hs : B 22 (10 * wh (cSpk B m) nm i + 0) = side
      · have hpi : p i = true := by rw [← hp]; simpa [pkP] using hs
        have gcs : gc p (i + 1) = gc p i + 1 := by simp [gc, hpi]
        have whi : wh p (i + 1) (gc p i) = i := by simp [wh, hpi]
        let im1 := gm_up im 79 (gc p i) (nI i)
        have ho1 : Off B im1 := ho.up rfl (by decide)
        have h72b : im1 72 i = nI (wh (cSpk B m) nm i) := by show gm_up im 79 (gc p i) (nI i) 72 i = _; rw [gu_ne (by decide)]; exact h72
        have hts := C_takeSp (lm := lm) hi7 (show wh (cSpk B m) nm i < 7 by omega) h72b
        let im2 := gm_up (cTake im1 (wh (cSpk B m) nm i)) 69 8 (im1 71 5)
        have fr2 : Fr [69] im1 im2 := (cTake_fr im1 _).up (by simp)
        have ho2 : Off B im2 := ho1.tr (fr2.off (by decide))
        have e5 : im1 71 5 = da := by show gm_up im 79 (gc p i) (nI i) 71 5 = da; rw [gu_ne (by decide)]; exact hd.2.1
        have hv2 : vEq (im2 69) (dV B da (wh (cSpk B m) nm i)) := by
          show vEq (gm_up (cTake im1 (wh (cSpk B m) nm i)) 69 8 (im1 71 5) 69) _
          rw [gu_upd, e5]
          exact (cTake_v ho1 _).up 8 da
        have h14b : im2 71 14 = nI (gc p i) := by rw [fr2 71 (by decide)]; show gm_up im 79 (gc p i) (nI i) 71 14 = _; rw [gu_ne (by decide)]; exact h14
        obtain ⟨im3, lm3, h4, f3, g3, k3, u3⟩ := C_gp_in hR (dV B da (wh (cSpk B m) nm i)) side (nI i) hK3 4 0 im2 lm (by omega) ho2 h14b (fun a b c _ _ => hv2 a b c) (fun y hy => by omega)
        let im4 := gm_up im3 71 14 (nI (gc p i + 1))
        have F3 : Fr [19, 69, 70, 71, 79] im im3 := (Fr.tr ((Fr.rf _ im).up (by decide)) (fr2.mo (by decide))).tr (f3.mo (by decide))
        have F4 : Fr [19, 69, 70, 71, 79] im im4 := F3.up (by decide)
        have r71 : im3 71 = im 71 := by rw [f3 71 (by decide), fr2 71 (by decide)]; show gm_up im 79 (gc p i) (nI i) 71 = _; rw [gu_row (by decide)]
        have r72 : im3 72 = im 72 := F3 72 (by decide)
        have r79 : im3 79 = im1 79 := by rw [f3 79 (by decide), fr2 79 (by decide)]
        obtain ⟨im', lm', h5, h6, h7, h8, h9, h10⟩ := ih (i + 1) im4 lm3 (.int (nI 4)) (by omega) (ho.tr (F4.off (by decide))) (by
          refine ⟨?_, ?_, ?_⟩
          · show gm_up im3 71 14 _ 71 4 = _; rw [gu_nk (by decide), r71]; exact hd.1
          · show gm_up im3 71 14 _ 71 5 = _; rw [gu_nk (by decide), r71]; exact hd.2.1
          · intro j hj; show gm_up im3 71 14 _ 72 j = _; rw [gu_ne (by decide), r72]; exact hd.2.2 j hj) (by omega) (by
          rw [gcs]
          refine ⟨gu_eq, fun k hk1 => ?_⟩
          by_cases e : k = gc p i
          · subst e
            rw [whi]
            refine ⟨?_, fun y hy => k3 y hy⟩
            show gm_up im3 71 14 _ 79 _ = _
            rw [gu_ne (by decide), r79]
            exact gu_eq
          · have hkl : k < gc p i := by omega
            rw [wh_st p hkl]
            obtain ⟨q1, q2⟩ := hk.2 k hkl
            refine ⟨?_, fun y hy => ?_⟩
            · show gm_up im3 71 14 _ 79 _ = _
              rw [gu_ne (by decide), r79]
              show gm_up im 79 (gc p i) (nI i) 79 k = _
              rw [gu_nk e]; exact q1
            · have := u3 (4 * k + y) (by omega)
              rw [this.1, this.2]
              exact q2 y hy)
        refine ⟨im', lm', ?_, h6, h7, h8, g3.tr h9, F4.tr h10⟩
        have e714 : gm_up im 79 (gc p i) (nI i) 71 14 = nI (gc p i) := by rw [gu_ne (by decide)]; exact h14
        simp (decide := true) only [QX0_gatherPickers, hd.1, hlt, if_false, if_true, h14, hlt3, i7 i hi7, h72, hg, gm_cont_i, hs, i3 (gc p i) hK3, not_true_eq_false]
        rw [hts]
        simp only [QX0_gatherPickers, gm_cont_v, gm_cat_i, gm_cat_r]
        rw [show gm_up (cTake (gm_up im 79 (gc p i) (nI i)) (wh (cSpk B m) nm i)) 69 8 (gm_up im 79 (gc p i) (nI i) 71 5) = im2 from rfl]
        rw [show (0 : Int32) = nI 0 from rfl, h4]
        have e14 : im3 71 14 = nI (gc p i) := by rw [r71]; exact h14
        simp only [QX0_gatherPickers, gm_cat_r, gm_cat_i, if_true, e14, nI_a1]
        exact h5
      · have hpi : p i = false := by rw [← hp]; simpa [pkP] using hs
        have gcs : gc p (i + 1) = gc p i := by simp [gc, hpi]
        obtain ⟨im', lm', h5, h6, h7, h8, h9, h10⟩ := ih (i + 1) im lm x3 (by omega) ho hd (by omega) (by
          rw [gcs]
          refine ⟨hk.1, fun k hk1 => ?_⟩
          rw [wh_st p hk1]
          exact hk.2 k hk1)
        refine ⟨im', lm', ?_, h6, h7, h8, h9, h10⟩
        simp (decide := true) only [QX0_gatherPickers, hd.1, hlt, if_false, if_true, h14, hlt3, i7 i hi7, h72, hg, gm_cont_i, hs, nI_a1, not_false_eq_true]
        exact h5
theorem C_gatherPickers (hR : iRoll B l nm nk nj ns) {m da : Int32} (side : Int32) {im : gm_I} (lm : gm_L) (ho : Off B im) (hd : dW (cSpk B m) nm da im) : ∃ im' lm', gm_den 15 0 [.ref 71, .int side, .null, .null] [] 128 gm_RF im lm = some (none, 128, gm_RF, im', lm') ∧ Off B im' ∧ dW (cSpk B m) nm da im' ∧ pkS B (cSpk B m) nm nj da (pkP B (cSpk B m) nm side) (gc (cSpk B m) nm) (min 3 (gc (pkP B (cSpk B m) nm side) (gc (cSpk B m) nm))) im' lm' ∧ Fr [80, 81] lm lm' ∧ Fr [19, 69, 70, 71, 79] im im' := by
  obtain ⟨im', lm', h1, h2, h3, h4, h5, h6⟩ := C_gp_loop hR m da side (gc (cSpk B m) nm) 0 (gm_up im 71 14 0) lm .null (by omega) (ho.up rfl (by decide)) (by
    refine ⟨by rw [gu_nk (by decide)]; exact hd.1, by rw [gu_nk (by decide)]; exact hd.2.1, fun j hj => by rw [gu_ne (by decide)]; exact hd.2.2 j hj⟩) (Nat.zero_le _) ⟨gu_eq, fun k hk => absurd hk (Nat.not_lt_zero _)⟩
  refine ⟨im', lm', ?_, h2, h3, h4, h5, Fr.tr ((Fr.rf _ im).up (by decide)) h6⟩
  have n1 : Value.category .null = 1 := rfl
  simp only [QX0_gatherPickers, gm_cat_i, gm_cat_r, n1]
  exact h1
end
