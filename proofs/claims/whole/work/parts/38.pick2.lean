/-! the class: the best manners -/
/-- the voice of the i-th speaker in a pick -/
def kV (B : gm_I) (f : Nat → Bool) (nm : Nat) (da : Int32) (p : Nat → Bool) (K pick i : Nat) (sl : Int32) : Nat → Int32 := if p i = true ∧ gc p i < 3 then pV (dV B da (wh f nm i)) (pick / 4 ^ (K - 1 - gc p i) % 4) sl else upd (dV B da (wh f nm i)) 6 sl
section
variable {B : gm_I} {l nm nk nj ns : Nat}
theorem C_pm_in {f : Nat → Bool} {nm nj : Nat} (hm : nm ≤ 7) (da side x2 : Int32) (p : Nat → Bool) (K pick : Nat) (hK : K = min 3 (gc p (gc f nm))) (hpick : pick < 64) (im : gm_I) (lm0 : gm_L) : ∀ (w k : Nat) (lm : gm_L), k + w = K → pkS B f nm nj da p (gc f nm) K im lm → (∀ i, i < gc f nm → lm 73 i = (if p i = true ∧ gc p i < k then ent B nj (kV B f nm da p K pick i 0) else lm0 73 i) ∧ lm 74 i = (if p i = true ∧ gc p i < k then ent B nj (kV B f nm da p K pick i 1) else lm0 74 i)) → ∃ lm', gm_den 14 32 [.ref 71, .int side, .int x2, .int (nI pick), .int (nI k)] [] 128 gm_RF im lm = gm_den 14 105 [.ref 71, .int side, .int x2, .int (nI pick), .int (nI K)] [] 128 gm_RF im lm' ∧ Fr [73, 74] lm lm' ∧ ∀ i, i < gc f nm → lm' 73 i = (if p i = true ∧ gc p i < K then ent B nj (kV B f nm da p K pick i 0) else lm0 73 i) ∧ lm' 74 i = (if p i = true ∧ gc p i < K then ent B nj (kV B f nm da p K pick i 1) else lm0 74 i) := by
  have hle := gc_le f nm
  intro w
  induction w with
  | zero =>
    intro k lm hw hs hl
    have : k = K := by omega
    subst this
    refine ⟨lm, ?_, Fr.rf _ _, hl⟩
    rw [LX0_pickManners_32]
    simp only [QX0_pickManners, hs.1, nI_le (Nat.le_refl k) (show k < 2 ^ 31 by omega), if_true]
  | succ w ih =>
    intro k lm hw hs hl
    have hk3 : k < 3 := by omega
    have hkg : k < gc p (gc f nm) := by omega
    obtain ⟨h79, hby⟩ := hs.2 k (by omega)
    obtain ⟨w1, w2, w3⟩ := wh_ok p hkg
    have hlt : ¬ nI K ≤ nI k := nI_ge (by omega) (by omega)
    have hx4 : pick / 4 ^ (K - 1 - k) % 4 < 4 := Nat.mod_lt _ (by decide)
    have hmi := C_mannerIn (show K ≤ 3 by omega) (show k < K by omega) hpick hs.1 lm
    have hy := hby (pick / 4 ^ (K - 1 - k) % 4) hx4
    let lm1 := gm_up lm 73 (wh p (gc f nm) k) (ent B nj (pV (dV B da (wh f nm (wh p (gc f nm) k))) (pick / 4 ^ (K - 1 - k) % 4) 0))
    have hmi1 := C_mannerIn (show K ≤ 3 by omega) (show k < K by omega) hpick hs.1 lm1
    let lm2 := gm_up lm1 74 (wh p (gc f nm) k) (ent B nj (pV (dV B da (wh f nm (wh p (gc f nm) k))) (pick / 4 ^ (K - 1 - k) % 4) 1))
    have f2 : Fr [73, 74] lm lm2 := ((Fr.rf _ lm).up (by simp)).up (by simp)
    have kve : ∀ sl, kV B f nm da p K pick (wh p (gc f nm) k) sl = pV (dV B da (wh f nm (wh p (gc f nm) k))) (pick / 4 ^ (K - 1 - k) % 4) sl := fun sl => by
      unfold kV; rw [if_pos ⟨w2, by omega⟩, w3]
    obtain ⟨lm', h1, h2, h3⟩ := ih (k + 1) lm2 (by omega) (by
      refine ⟨hs.1, fun q hq => ?_⟩
      obtain ⟨a1, a2⟩ := hs.2 q hq
      refine ⟨a1, fun y hy => ?_⟩
      rw [f2 80 (by decide), f2 81 (by decide)]
      exact a2 y hy) (by
      intro i hi
      obtain ⟨l1, l2⟩ := hl i hi
      by_cases e : i = wh p (gc f nm) k
      · subst e
        rw [if_pos ⟨w2, by omega⟩, if_pos ⟨w2, by omega⟩, kve, kve]
        exact ⟨by show gm_up (gm_up lm 73 _ _) 74 _ _ 73 _ = _; rw [gu_ne (by decide), gu_eq], by show gm_up (gm_up lm 73 _ _) 74 _ _ 74 _ = _; rw [gu_eq]⟩
      · have hiff : (p i = true ∧ gc p i < k + 1) ↔ (p i = true ∧ gc p i < k) := by
          constructor
          · intro ⟨a, b⟩
            refine ⟨a, ?_⟩
            by_cases e2 : gc p i = k
            · exact absurd (by rw [← e2]; exact (wh_gc p hi a).symm) e
            · omega
          · intro ⟨a, b⟩; exact ⟨a, by omega⟩
        simp only [hiff]
        rw [← l1, ← l2]
        exact ⟨by show gm_up (gm_up lm 73 _ _) 74 _ _ 73 _ = _; rw [gu_ne (by decide), gu_nk e], by show gm_up (gm_up lm 73 _ _) 74 _ _ 74 _ = _; rw [gu_nk e, gu_ne (by decide)]⟩)
    refine ⟨lm', ?_, f2.tr h2, h3⟩
    rw [← h1, LX0_pickManners_32]
    have e81 : lm1 81 (4 * k + pick / 4 ^ (K - 1 - k) % 4) = lm 81 (4 * k + pick / 4 ^ (K - 1 - k) % 4) := by show gm_up lm 73 _ _ 81 _ = _; rw [gu_ne (by decide)]
    simp only [QX0_pickManners, hs.1, hlt, if_false, i3 k hk3, if_true, h79, hmi, gm_cont_i, ix12 k _ hk3 hx4, hy.1, i7 (wh p (gc f nm) k) (show wh p (gc f nm) k < 7 by omega)]
    rw [show gm_up lm 73 (wh p (gc f nm) k) (ent B nj (pV (dV B da (wh f nm (wh p (gc f nm) k))) (pick / 4 ^ (K - 1 - k) % 4) 0)) = lm1 from rfl, hmi1]
    simp only [QX0_pickManners, gm_cont_i, ix12 k _ hk3 hx4, if_true, e81, hy.2, i7 (wh p (gc f nm) k) (show wh p (gc f nm) k < 7 by omega), nI_a1]
    rfl
/-- the first best -/
def pkF (X : Nat → Nat) (x : Option Nat) (k : Nat) : Option Nat := match x with
  | none => some k
  | some b => if X b < X k then some k else some b
def oM (X : Nat → Nat) : Option Nat → Int32
  | none => -1
  | some b => nI (X b)
theorem pkF_lt {X : Nat → Nat} {n b : Nat} (h : fI (pkF X) none n = some b) : b < n := by
  induction n generalizing b with
  | zero => cases h
  | succ n ih =>
    simp only [fI] at h
    cases hg : fI (pkF X) none n with
    | none => rw [hg] at h; cases h; omega
    | some c => rw [hg] at h; simp only [pkF] at h; have := ih hg; split at h <;> cases h <;> omega
theorem pkF_some (X : Nat → Nat) (n : Nat) : ∃ b, fI (pkF X) none (n + 1) = some b := by
  simp only [fI]
  cases fI (pkF X) none n with
  | none => exact ⟨n, rfl⟩
  | some c => simp only [pkF]; split
              · exact ⟨n, rfl⟩
              · exact ⟨c, rfl⟩
theorem chF_le (side : Int32) (wt : Nat → Nat) (fl : Nat → Option Nat) (M n : Nat) (h : ∀ s, s < n → wt s ≤ M) : fI (chF side wt fl) 0 n ≤ M * n := by
  induction n with
  | zero => exact Nat.le_refl _
  | succ n ih =>
    have h1 := ih (fun s hs => h s (by omega))
    have h2 := h n (by omega)
    simp only [fI]
    unfold chF at *
    rw [Nat.mul_succ]
    split <;> omega
/-- the chance of a pick -/
def kX (B : gm_I) (nj : Nat) (f : Nat → Bool) (nm : Nat) (da : Int32) (p : Nat → Bool) (K : Nat) (side : Int32) (pick : Nat) : Nat := fI (chF side (fun s => gW B f nm s (gc f nm)) (fun s => vFall B nj f nm (fun a => if s.testBit (gc f a) then kV B f nm da p K pick (gc f a) 1 else kV B f nm da p K pick (gc f a) 0))) 0 (2 ^ gc f nm)
theorem kV_pOk {f : Nat → Bool} {da : Int32} {p : Nat → Bool} {K pick : Nat} {sl : Int32} {a : Nat} (ha : a < nm) (hf : f a = true) (h : pOk (cV B a)) : pOk (kV B f nm da p K pick (gc f a) sl) := by
  have e : kV B f nm da p K pick (gc f a) sl 4 = cV B a 4 := by
    unfold kV
    rw [wh_gc f ha hf]
    split
    · simp [pV, upd, dV]
    · simp [upd, dV]
  unfold pOk pN at *
  rw [e]
  exact h
theorem C_pm_loop (hR : iRoll B l nm nk nj ns) (m da side : Int32) (hp : ∀ a, a < nm → cSpk B m a = true → pOk (cV B a)) (p : Nat → Bool) (K : Nat) (hK : K = min 3 (gc p (gc (cSpk B m) nm))) : ∀ (w pick : Nat) (im : gm_I) (lm : gm_L) (x4 : Value), pick + w = 4 ^ K → x4.category = 1 → Off B im → dW (cSpk B m) nm da im → pkS B (cSpk B m) nm nj da p (gc (cSpk B m) nm) K im lm → (∀ s, s < 2 ^ gc (cSpk B m) nm → im 77 s = nI (gW B (cSpk B m) nm s (gc (cSpk B m) nm))) → (∀ i, i < gc (cSpk B m) nm → ¬ (p i = true ∧ gc p i < 3) → lm 73 i = ent B nj (upd (dV B da (wh (cSpk B m) nm i)) 6 0) ∧ lm 74 i = ent B nj (upd (dV B da (wh (cSpk B m) nm i)) 6 1)) → (∀ b, fI (pkF (kX B nj (cSpk B m) nm da p K side)) none pick = some b → im 71 15 = nI b) → ∃ im' lm', gm_den 14 17 [.ref 71, .int side, .int (oM (kX B nj (cSpk B m) nm da p K side) (fI (pkF (kX B nj (cSpk B m) nm da p K side)) none pick)), .int (nI pick), x4] [] 128 gm_RF im lm = some (some (.int (oM (kX B nj (cSpk B m) nm da p K side) (fI (pkF (kX B nj (cSpk B m) nm da p K side)) none (4 ^ K)))), 128, gm_RF, im', lm') ∧ Off B im' ∧ dW (cSpk B m) nm da im' ∧ im' 71 14 = nI K ∧ (∀ b, fI (pkF (kX B nj (cSpk B m) nm da p K side)) none (4 ^ K) = some b → im' 71 15 = nI b) ∧ Fr [73, 74, 75] lm lm' := by
  have hm7 := iR_nm hR
  have hnj := iR_nj hR
  have hle := gc_le (cSpk B m) nm
  have hK3 : K ≤ 3 := by omega
  have h64 := p4le hK3
  have hp27 := p27 (show gc (cSpk B m) nm ≤ 7 by omega)
  intro w
  induction w with
  | zero =>
    intro pick im lm x4 hw c4 ho hd hs h77 hu hb
    have : pick = 4 ^ K := by omega
    subst this
    refine ⟨im, lm, ?_, ho, hd, hs.1, hb, Fr.rf _ _⟩
    rw [LX0_pickManners_17]
    simp only [QX0_pickManners, hs.1, pw4 hK3, nI_le (Nat.le_refl (4 ^ K)) (show 4 ^ K < 2 ^ 31 by omega), if_true]
  | succ w ih =>
    intro pick im lm x4 hw c4 ho hd hs h77 hu hb
    have hlt : ¬ nI (4 ^ K) ≤ nI pick := nI_ge (by omega) (by omega)
    obtain ⟨lm1, h1, f1, h2⟩ := C_pm_in (B := B) (nj := nj) (f := cSpk B m) hm7 da side (oM (kX B nj (cSpk B m) nm da p K side) (fI (pkF (kX B nj (cSpk B m) nm da p K side)) none pick)) p K pick hK (by omega) im lm K 0 lm (by omega) hs (fun i hi => by rw [if_neg (by omega), if_neg (by omega)]; exact ⟨rfl, rfl⟩)
    have hkk : ∀ i, i < gc (cSpk B m) nm → lm1 73 i = ent B nj (kV B (cSpk B m) nm da p K pick i 0) ∧ lm1 74 i = ent B nj (kV B (cSpk B m) nm da p K pick i 1) := by
      intro i hi
      obtain ⟨a1, a2⟩ := h2 i hi
      by_cases hc : p i = true ∧ gc p i < 3
      · have hcK : p i = true ∧ gc p i < K := ⟨hc.1, by have := gc_lt p hi hc.1; omega⟩
        rw [if_pos hcK] at a1 a2
        exact ⟨a1, a2⟩
      · have hcK : ¬ (p i = true ∧ gc p i < K) := fun hh => hc ⟨hh.1, by omega⟩
        rw [if_neg hcK] at a1 a2
        obtain ⟨u1, u2⟩ := hu i hi hc
        unfold kV
        rw [if_neg hc, if_neg hc, a1, a2]
        exact ⟨u1, u2⟩
    have hw1 := wins_of (us := lm1 73) (tu := lm1 74) hnj hm7 (f := cSpk B m) (v0 := fun a => kV B (cSpk B m) nm da p K pick (gc (cSpk B m) a) 0) (v1 := fun a => kV B (cSpk B m) nm da p K pick (gc (cSpk B m) a) 1) (by
      intro i hi
      show _ = ent B nj (kV B (cSpk B m) nm da p K pick (gc (cSpk B m) (wh (cSpk B m) nm i)) 0)
      rw [(wh_ok (cSpk B m) hi).2.2]; exact (hkk i hi).1) (by
      intro i hi
      show _ = ent B nj (kV B (cSpk B m) nm da p K pick (gc (cSpk B m) (wh (cSpk B m) nm i)) 1)
      rw [(wh_ok (cSpk B m) hi).2.2]; exact (hkk i hi).2) (fun a ha hf => kV_pOk ha hf (hp a ha hf)) (fun a ha hf => kV_pOk ha hf (hp a ha hf)) (2 ^ gc (cSpk B m) nm)
    have hwt : ∀ s, s < 2 ^ gc (cSpk B m) nm → im 77 s = nI (gW B (cSpk B m) nm s (gc (cSpk B m) nm)) ∧ gW B (cSpk B m) nm s (gc (cSpk B m) nm) < 2 ^ 31 := fun s hs => ⟨h77 s hs, by
      have := gW_le hR (cSpk B m) s (gc (cSpk B m) nm) (Nat.le_refl _)
      have := p107 (show gc (cSpk B m) nm ≤ 7 by omega)
      omega⟩
    obtain ⟨lm2, h3, f2⟩ := C_chanceOf im lm1 (gc (cSpk B m) nm) hd.1 (by omega) side (fun s => gW B (cSpk B m) nm s (gc (cSpk B m) nm)) hwt _ hw1
    have h3' : gm_den 11 0 [.ref 71, .int side, .null, .null] [] 128 gm_RF im lm1 = some (some (.int (nI (kX B nj (cSpk B m) nm da p K side pick))), 128, gm_RF, im, lm2) := h3
    have f12 : Fr [73, 74, 75] lm lm2 := (f1.mo (by decide)).tr (f2.mo (by decide))
    have hbd : ∀ k, kX B nj (cSpk B m) nm da p K side k ≤ 1280000000 := by
      intro k
      have h9 := chF_le side (fun s => gW B (cSpk B m) nm s (gc (cSpk B m) nm)) (fun s => vFall B nj (cSpk B m) nm (fun a => if s.testBit (gc (cSpk B m) a) then kV B (cSpk B m) nm da p K k (gc (cSpk B m) a) 1 else kV B (cSpk B m) nm da p K k (gc (cSpk B m) a) 0)) (10 ^ 7) (2 ^ gc (cSpk B m) nm) (fun s _ => Nat.le_trans (gW_le hR (cSpk B m) s (gc (cSpk B m) nm) (Nat.le_refl _)) (p107 (show gc (cSpk B m) nm ≤ 7 by omega)))
      have h8 : 10 ^ 7 * 2 ^ gc (cSpk B m) nm ≤ 10 ^ 7 * 128 := Nat.mul_le_mul_left _ hp27
      unfold kX
      omega
    have hs2 : ∀ im', im' 71 14 = im 71 14 → im' 79 = im 79 → pkS B (cSpk B m) nm nj da p (gc (cSpk B m) nm) K im' lm2 := by
      intro im' e1 e2
      refine ⟨by rw [e1]; exact hs.1, fun q hq => ?_⟩
      obtain ⟨a1, a2⟩ := hs.2 q hq
      refine ⟨by rw [e2]; exact a1, fun y hy => ?_⟩
      rw [f12 80 (by decide), f12 81 (by decide)]
      exact a2 y hy
    have hu2 : ∀ i, i < gc (cSpk B m) nm → ¬ (p i = true ∧ gc p i < 3) → lm2 73 i = ent B nj (upd (dV B da (wh (cSpk B m) nm i)) 6 0) ∧ lm2 74 i = ent B nj (upd (dV B da (wh (cSpk B m) nm i)) 6 1) := by
      intro i hi hc
      rw [f2 73 (by decide), f2 74 (by decide), (hkk i hi).1, (hkk i hi).2]
      unfold kV
      rw [if_neg hc, if_neg hc]
      exact ⟨rfl, rfl⟩
    have e0 : gm_den 14 17 [.ref 71, .int side, .int (oM (kX B nj (cSpk B m) nm da p K side) (fI (pkF (kX B nj (cSpk B m) nm da p K side)) none pick)), .int (nI pick), x4] [] 128 gm_RF im lm = gm_cont 14 110 [.ref 71, .int side, .int (oM (kX B nj (cSpk B m) nm da p K side) (fI (pkF (kX B nj (cSpk B m) nm da p K side)) none pick)), .int (nI pick), .int (nI K)] [] 128 (gm_den 11 0 [.ref 71, .int side, .null, .null] [] 128 gm_RF im lm1) := by
      have e1 : gm_den 14 17 [.ref 71, .int side, .int (oM (kX B nj (cSpk B m) nm da p K side) (fI (pkF (kX B nj (cSpk B m) nm da p K side)) none pick)), .int (nI pick), x4] [] 128 gm_RF im lm = gm_den 14 32 [.ref 71, .int side, .int (oM (kX B nj (cSpk B m) nm da p K side) (fI (pkF (kX B nj (cSpk B m) nm da p K side)) none pick)), .int (nI pick), .int (nI 0)] [] 128 gm_RF im lm := by
        rw [LX0_pickManners_17]
        simp only [QX0_pickManners, hs.1, pw4 hK3, hlt, if_false, gm_cat_i, c4]
        rfl
      rw [e1, h1]
      simp only [QX0_pickManners]
    rw [e0, h3']
    cases hg : fI (pkF (kX B nj (cSpk B m) nm da p K side)) none pick with
    | none =>
      have e : fI (pkF (kX B nj (cSpk B m) nm da p K side)) none (pick + 1) = some pick := by simp only [fI, hg, pkF]
      obtain ⟨im', lm', h5, h6, h7, h8, h9, h10⟩ := ih (pick + 1) (gm_up im 71 15 (nI pick)) lm2 (.int (nI (kX B nj (cSpk B m) nm da p K side pick))) (by omega) rfl (ho.up rfl (by decide)) (by
        refine ⟨by rw [gu_nk (by decide)]; exact hd.1, by rw [gu_nk (by decide)]; exact hd.2.1, fun j hj => by rw [gu_ne (by decide)]; exact hd.2.2 j hj⟩) (hs2 _ (gu_nk (by decide)) (gu_row (by decide))) (fun s hs => by rw [gu_ne (by decide)]; exact h77 s hs) hu2 (fun b hb => by rw [e] at hb; cases hb; exact gu_eq)
      refine ⟨im', lm', ?_, h6, h7, h8, h9, f12.tr h10⟩
      rw [← h5, e]
      have hx : ¬ nI (kX B nj (cSpk B m) nm da p K side pick) ≤ -1 := by
        rw [Int32.not_le]
        have : (-1 : Int32) < 0 := by decide
        have h0 : (0 : Int32) ≤ nI (kX B nj (cSpk B m) nm da p K side pick) := nI_le (a := 0) (Nat.zero_le _) (by have := hbd pick; omega)
        exact Int32.lt_of_lt_of_le this h0
      simp only [QX0_pickManners, gm_cont_i, gm_cat_i, oM, hx, if_false, nI_a1]
    | some c =>
      have hcl := pkF_lt hg
      by_cases hc : kX B nj (cSpk B m) nm da p K side c < kX B nj (cSpk B m) nm da p K side pick
      · have e : fI (pkF (kX B nj (cSpk B m) nm da p K side)) none (pick + 1) = some pick := by simp only [fI, hg, pkF, hc, if_true]
        obtain ⟨im', lm', h5, h6, h7, h8, h9, h10⟩ := ih (pick + 1) (gm_up im 71 15 (nI pick)) lm2 (.int (nI (kX B nj (cSpk B m) nm da p K side pick))) (by omega) rfl (ho.up rfl (by decide)) (by
          refine ⟨by rw [gu_nk (by decide)]; exact hd.1, by rw [gu_nk (by decide)]; exact hd.2.1, fun j hj => by rw [gu_ne (by decide)]; exact hd.2.2 j hj⟩) (hs2 _ (gu_nk (by decide)) (gu_row (by decide))) (fun s hs => by rw [gu_ne (by decide)]; exact h77 s hs) hu2 (fun b hb => by rw [e] at hb; cases hb; exact gu_eq)
        refine ⟨im', lm', ?_, h6, h7, h8, h9, f12.tr h10⟩
        rw [← h5, e]
        have hx : ¬ nI (kX B nj (cSpk B m) nm da p K side pick) ≤ nI (kX B nj (cSpk B m) nm da p K side c) := nI_ge hc (by have := hbd pick; omega)
        simp only [QX0_pickManners, gm_cont_i, gm_cat_i, oM, hx, if_false, nI_a1]
      · have e : fI (pkF (kX B nj (cSpk B m) nm da p K side)) none (pick + 1) = some c := by simp only [fI, hg, pkF, hc, if_false]
        obtain ⟨im', lm', h5, h6, h7, h8, h9, h10⟩ := ih (pick + 1) im lm2 (.int (nI (kX B nj (cSpk B m) nm da p K side pick))) (by omega) rfl ho hd (hs2 _ rfl rfl) h77 hu2 (fun b hb2 => by rw [e] at hb2; cases hb2; exact hb c hg)
        refine ⟨im', lm', ?_, h6, h7, h8, h9, f12.tr h10⟩
        rw [← h5, e]
        have hx : nI (kX B nj (cSpk B m) nm da p K side pick) ≤ nI (kX B nj (cSpk B m) nm da p K side c) := nI_le (by omega) (by have := hbd c; omega)
        simp only [QX0_pickManners, gm_cont_i, gm_cat_i, oM, hx, if_true, nI_a1]
theorem C_pickManners (hR : iRoll B l nm nk nj ns) {m da : Int32} (side : Int32) {im : gm_I} (lm : gm_L) (ho : Off B im) (hd : dW (cSpk B m) nm da im) (he : dE (cSpk B m) nm (fun b => ent B nj (dV B da b)) (lm 73)) (hp : ∀ a, a < nm → cSpk B m a = true → pOk (cV B a)) (p : Nat → Bool) (hpp : p = pkP B (cSpk B m) nm side) (K : Nat) (hK : K = min 3 (gc p (gc (cSpk B m) nm))) : ∃ im' lm', gm_den 14 0 [.ref 71, .int side, .null, .null, .null] [] 128 gm_RF im lm = some (some (.int (oM (kX B nj (cSpk B m) nm da p K side) (fI (pkF (kX B nj (cSpk B m) nm da p K side)) none (4 ^ K)))), 128, gm_RF, im', lm') ∧ Off B im' ∧ dW (cSpk B m) nm da im' ∧ im' 71 14 = nI K ∧ (∀ b, fI (pkF (kX B nj (cSpk B m) nm da p K side)) none (4 ^ K) = some b → im' 71 15 = nI b) ∧ Fr [73, 74, 75, 80, 81] lm lm' := by
  obtain ⟨im1, h1, o1, d1, w1, f1⟩ := C_weigh hR ho hd lm
  obtain ⟨im2, lm2, h2, o2, d2, e2, g2, f2⟩ := C_turnBySlip hR o1 d1 lm
  obtain ⟨im3, lm3, h3, o3, d3, s3, g3, f3⟩ := C_gatherPickers hR side lm2 o2 d2
  rw [← hpp, ← hK] at s3
  obtain ⟨im', lm', h4, o4, d4, k4, b4, g4⟩ := C_pm_loop hR m da side hp p K hK (4 ^ K) 0 im3 lm3 .null (by omega) rfl o3 d3 s3 (fun s hs => by rw [f3 77 (by decide), f2 77 (by decide)]; exact w1 s hs) (by
    intro i hi _
    rw [g3 73 (by decide), g3 74 (by decide), g2 73 (by decide), he i hi, e2 i hi]
    refine ⟨?_, rfl⟩
    apply ent_eq
    intro k _ _
    unfold upd
    by_cases h : k = 6
    · subst h; simp [dV, cV, upd]
    · simp [h]) (fun b hb => by cases hb)
  refine ⟨im', lm', ?_, o4, d4, k4, b4, ((g2.mo (by decide)).tr (g3.mo (by decide))).tr (g4.mo (by decide))⟩
  have n1 : Value.category .null = 1 := rfl
  simp only [QX0_pickManners, h1, h2, h3, gm_cont_v, gm_cat_i, gm_cat_r, n1]
  exact h4
theorem C_pickedManner {im : gm_I} {K b : Nat} (hK : K ≤ 3) (hb : b < 64) (h14 : im 71 14 = nI K) (h15 : im 71 15 = nI b) (i : Int32) (lm : gm_L) : gm_den 17 0 [.ref 71, .int i] [] 128 gm_RF im lm = some (some (.int (if 0 ≤ i ∧ i < nI K then nI (b / 4 ^ (K - 1 - i.toNatClampNeg) % 4) else -1)), 128, gm_RF, im, lm) := by
  by_cases h1 : i < 0
  · have : ¬ 0 ≤ i := Int32.not_le.mpr h1
    simp [QX0_pickedManner, h1, this]
  · have h3 : 0 ≤ i := Int32.not_lt.mp h1
    by_cases h2 : nI K ≤ i
    · have : ¬ i < nI K := Int32.not_lt.mpr h2
      simp [QX0_pickedManner, h1, h14, h2, this]
    · have h4 : i < nI K := Int32.not_le.mp h2
      obtain ⟨j, hj, rfl⟩ := nI_of h1
      have hjK : j < K := by
        apply Classical.byContradiction
        intro hc
        exact h2 (nI_le (by omega) (by omega))
      have hc : (nI j).toNatClampNeg = j := nI_clamp (by omega)
      have hmi := C_mannerIn hK hjK hb h14 lm
      rw [if_pos ⟨h3, h4⟩, hc]
      simp only [QX0_pickedManner, h1, h14, h15, h2, if_false, hmi, gm_cont_i]
end
