/-! one base memory for class and reference: what a question leaves as it is -/
/-- cells that are scratch as a whole -/
def gs (q : Nat) : Bool := q == 2 || q == 3 || q == 5 || q == 6 || q == 7 || q == 8 || q == 9 || q == 10 || q == 19 || q == 20 || (69 ≤ q && q ≤ 81) || q == 84 || (86 ≤ q && q ≤ 90) || q == 92 || q == 113 || q == 114 || q == 115 || q == 117 || q == 118 || q == 119 || q == 121 || q == 122 || q == 125
/-- fields of the reference that last -/
def gt (k : Nat) : Bool := k == 2 || k == 17 || k == 18 || k == 54 || k == 61
def Off (B im : gm_I) : Prop := (∀ q, gs q = false → im q = B q) ∧ ∀ k, gt k = true → im 84 k = B 84 k
theorem Off.rf (B : gm_I) : Off B B := ⟨fun _ _ => rfl, fun _ _ => rfl⟩
theorem Off.tr {a b c : gm_I} (h : Off a b) (k : Off b c) : Off a c := ⟨fun q h1 => (k.1 q h1).trans (h.1 q h1), fun q h1 => (k.2 q h1).trans (h.2 q h1)⟩
theorem cOff.off {im im' : gm_I} (h : cOff im im') : Off im im' := by
  refine ⟨fun q hq => h q ?_ ?_, fun k _ => ?_⟩
  · intro e; subst e; exact absurd hq (by decide)
  · intro e; subst e; exact absurd hq (by decide)
  · rw [h 84 (by decide) (by decide)]
theorem mOff.off {im im' : gm_I} (h : mOff im im') : Off im im' := by
  refine ⟨fun q hq => h.1 q ?_ ?_ ?_, fun k hk => h.2 k ?_⟩
  · intro e; subst e; exact absurd hq (by decide)
  · intro e; subst e; exact absurd hq (by decide)
  · intro e; subst e; exact absurd hq (by decide)
  · intro e; subst e; exact absurd hk (by decide)
/-- a cell of scratch written -/
theorem Off.up {B im : gm_I} (h : Off B im) {q k : Nat} {v : Int32} (hq : gs q = true) (h84 : q ≠ 84) : Off B (gm_up im q k v) := by
  refine ⟨fun p hp => ?_, fun j hj => ?_⟩
  · have : p ≠ q := by intro e; subst e; rw [hq] at hp; cases hp
    rw [gu_row this]; exact h.1 p hp
  · rw [gu_ne (Ne.symm h84)]; exact h.2 j hj
theorem Off.up84 {B im : gm_I} (h : Off B im) {k : Nat} {v : Int32} (hk : gt k = false) : Off B (gm_up im 84 k v) := by
  refine ⟨fun p hp => ?_, fun j hj => ?_⟩
  · have : p ≠ 84 := by intro e; subst e; exact absurd hp (by decide)
    rw [gu_row this]; exact h.1 p hp
  · have : j ≠ k := by intro e; subst e; rw [hk] at hj; cases hj
    rw [gu_nk this]; exact h.2 j hj
/-- a law of the reference with what stands in its place -/
def mLawX (im : gm_I) (l k : Nat) (va : Nat → Int32) : Int32 := mLaw im (3 * l + k) (if k = 0 then va 0 else if k = 1 then va 5 else 0) va
/-- the laws that stand lie in their own half of branches and codes -/
def mHalf (B : gm_I) (l : Nat) : Prop := ∀ k, k < 3 → ∃ b0 b1, B 104 (3 * l + k) = nI b0 ∧ B 105 (3 * l + k) = nI b1 ∧ ((b0 = 0 ∧ b1 = 0) ∨ (130 * l ≤ b0 ∧ b0 ≤ b1 ∧ b1 ≤ 130 * l + 130)) ∧ ∀ c, b0 ≤ c → c < b1 → ∃ p0 p2 p3, B 109 c = nI p2 ∧ B 110 c = nI p3 ∧ 420 * l ≤ p2 ∧ p2 ≤ p3 ∧ p3 ≤ 420 * l + 420 ∧ (B 106 c = 0 ∨ (B 107 c = nI p0 ∧ 420 * l ≤ p0 ∧ p0 ≤ p2))
/-- what the text told: the same in class and reference -/
def iRoll (B : gm_I) (l nm nk nj ns : Nat) : Prop :=
  (l < 2 ∧ nm ≤ 7 ∧ nk ≤ 5 ∧ nj ≤ 8 ∧ (ns = 2 ∨ ns = 3)) ∧
  (B 84 18 = nI l ∧ B 11 0 = nI ns ∧ B 11 2 = nI nm ∧ B 11 3 = nI nk ∧ B 11 4 = nI nj ∧ (∃ sd, sd ≤ 9999 ∧ B 11 1 = nI sd)) ∧
  (B 93 l = nI ns ∧ B 94 l = nI nm ∧ B 99 l = nI nk ∧ B 101 l = nI nj ∧ B 103 l = B 11 1) ∧
  (∀ a, a < nm → B 95 (7 * l + a) = B 12 (4 * a + 0) ∧ B 96 (7 * l + a) = B 12 (4 * a + 1) ∧ B 97 (7 * l + a) = B 12 (4 * a + 2) ∧ B 98 (7 * l + a) = B 12 (4 * a + 3) ∧ (∃ q, q ≤ 10 ∧ B 12 (4 * a + 2) = nI q) ∧ (∃ q, q < ns ∧ B 12 (4 * a + 0) = nI q)) ∧
  (∀ k s, k < nk → s < 3 → B 100 (3 * (5 * l + k) + s) = B 13 (3 * k + s) ∧ ∃ q, q ≤ 99 ∧ B 13 (3 * k + s) = nI q) ∧
  (∀ j, j < nj → B 102 (8 * l + j) = B 14 j) ∧
  (cLawsOk B ∧ (mLaws B l ∧ mHalf B l) ∧ ∀ k va, k < 3 → cLaw B k va = mLawX B l k va)
/-- a speech: 2 man, 3 skill, 4 pleads, 5 manner, 6 slip, 7 praise, 8 day, 9 sworn, 10 old -/
def vMk (B : gm_I) (v : Nat → Int32) (j : Nat) (good : Int32) : Int32 := if v 5 = 1 then 4 else sJoke (v 5) (sClamp 1 9 (cLaw B 1 (sV (v 3) (v 5) (v 6) (v 7) (v 8) good (if B 14 j = v 4 then 1 else 0) (nI j) (v 9))))
def vGd (B : gm_I) (v : Nat → Int32) : Int32 := if v 10 = -1 then sClamp 0 99 (cLaw B 0 (sV (v 3) (v 5) (v 6) (v 7) (v 8) 0 0 (v 2) (v 9))) else v 10
def vTo (B : gm_I) (v : Nat → Int32) (good : Int32) : Nat → Int32
  | 0 => 0
  | j + 1 => vTo B v good j + vMk B v j good
def vFn (B : gm_I) (v : Nat → Int32) (q : Int32) : Int32 := sClamp 0 99 (cLaw B 2 (sV (v 3) (v 5) (v 6) 0 (v 8) q 0 (v 2) (v 9)))
def vEq (v w : Nat → Int32) : Prop := ∀ i, 2 ≤ i → i ≤ 10 → v i = w i
theorem vMk_eq {B : gm_I} {v w : Nat → Int32} (h : vEq v w) (j : Nat) (good : Int32) : vMk B v j good = vMk B w j good := by
  unfold vMk
  rw [h 3 (by decide) (by decide), h 4 (by decide) (by decide), h 5 (by decide) (by decide), h 6 (by decide) (by decide), h 7 (by decide) (by decide), h 8 (by decide) (by decide), h 9 (by decide) (by decide)]
theorem vGd_eq {B : gm_I} {v w : Nat → Int32} (h : vEq v w) : vGd B v = vGd B w := by
  unfold vGd
  rw [h 2 (by decide) (by decide), h 3 (by decide) (by decide), h 5 (by decide) (by decide), h 6 (by decide) (by decide), h 7 (by decide) (by decide), h 8 (by decide) (by decide), h 9 (by decide) (by decide), h 10 (by decide) (by decide)]
theorem vFn_eq {B : gm_I} {v w : Nat → Int32} (h : vEq v w) (q : Int32) : vFn B v q = vFn B w q := by
  unfold vFn
  rw [h 2 (by decide) (by decide), h 3 (by decide) (by decide), h 5 (by decide) (by decide), h 6 (by decide) (by decide), h 8 (by decide) (by decide), h 9 (by decide) (by decide)]
theorem vTo_eq {B : gm_I} {v w : Nat → Int32} (h : vEq v w) (good : Int32) (n : Nat) : vTo B v good n = vTo B w good n := by
  induction n with
  | zero => rfl
  | succ n ih => simp only [vTo, ih, vMk_eq h]
/-- class: the words of the parts before by the base -/
theorem cLaw_B {B im : gm_I} (h : Off B im) (hok : cLawsOk B) (k : Nat) (va : Nat → Int32) : cLaw im k va = cLaw B k va :=
  cLaw_eq hok (h.1 15 rfl) (h.1 16 rfl) (h.1 17 rfl) (h.1 18 rfl) (fun _ _ => rfl)
theorem cLawsOk_B {B im : gm_I} (h : Off B im) (hok : cLawsOk B) : cLawsOk im := cLawsOk_of hok (h.1 15 rfl) (h.1 16 rfl) (h.1 17 rfl) (h.1 18 rfl)
theorem cGood_B {B im : gm_I} (h : Off B im) (hok : cLawsOk B) : cGood im = vGd B (im 69) := by
  unfold cGood vGd; rw [cLaw_B h hok]
theorem cMark_B {B im : gm_I} (h : Off B im) (hok : cLawsOk B) (j : Nat) (good : Int32) : cMark im j good = vMk B (im 69) j good := by
  unfold cMark vMk; rw [cLaw_B h hok, h.1 14 rfl]
theorem cTot_B {B im : gm_I} (h : Off B im) (hok : cLawsOk B) (good : Int32) (n : Nat) : cTot im good n = vTo B (im 69) good n := by
  induction n with
  | zero => rfl
  | succ n ih => simp only [cTot, vTo, ih, cMark_B h hok]
theorem cFine_B {B im : gm_I} (h : Off B im) (hok : cLawsOk B) (q : Int32) : cFine im q = vFn B (im 69) q := by
  unfold cFine vFn; rw [cLaw_B h hok]
/-- reference: laws by the base -/
def mLawOn (B im : gm_I) : Prop := ∀ q, 104 ≤ q → q ≤ 112 → im q = B q
theorem Off.law {B im : gm_I} (h : Off B im) : mLawOn B im := by
  intro q h1 h2
  apply h.1
  have : q = 104 ∨ q = 105 ∨ q = 106 ∨ q = 107 ∨ q = 108 ∨ q = 109 ∨ q = 110 ∨ q = 111 ∨ q = 112 := by omega
  rcases this with rfl | rfl | rfl | rfl | rfl | rfl | rfl | rfl | rfl <;> rfl
theorem mLaw_B {B im : gm_I} (h : mLawOn B im) (ix : Nat) (p : Int32) (va : Nat → Int32) : mLaw im ix p va = mLaw B ix p va := by
  have hT : ∀ fr to, mT im va fr to = mT B va fr to := fun fr to => by
    unfold mT; rw [h 111 (by decide) (by decide), h 112 (by decide) (by decide)]
  have hB : ∀ f b, mBr im va f b = mBr B va f b := by
    intro f
    induction f with
    | zero => intro b; rfl
    | succ f ih => intro b; simp only [mBr, ih, hT, h 106 (by decide) (by decide), h 107 (by decide) (by decide), h 108 (by decide) (by decide), h 109 (by decide) (by decide), h 110 (by decide) (by decide)]
  unfold mLaw mLw
  rw [hB, h 104 (by decide) (by decide), h 105 (by decide) (by decide)]
theorem mHalf_B {B im : gm_I} (h : mLawOn B im) {l : Nat} (k : mHalf B l) : mHalf im l := by
  unfold mHalf
  rw [h 104 (by decide) (by decide), h 105 (by decide) (by decide), h 106 (by decide) (by decide), h 107 (by decide) (by decide), h 109 (by decide) (by decide), h 110 (by decide) (by decide)]
  exact k
theorem mLaws_B {B im : gm_I} (h : mLawOn B im) {l : Nat} (k : mLaws B l) : mLaws im l := by
  have hS : ∀ {fr to}, mSeg B fr to → mSeg im fr to := fun {fr to} k => by
    unfold mSeg at k ⊢; rw [h 111 (by decide) (by decide), h 112 (by decide) (by decide)]; exact k
  have hB : ∀ {b}, mBrOk B b → mBrOk im b := by
    intro b k
    obtain ⟨p0, p1, p2, p3, e2, e3, s3, hk⟩ := k
    refine ⟨p0, p1, p2, p3, by rw [h 109 (by decide) (by decide)]; exact e2, by rw [h 110 (by decide) (by decide)]; exact e3, hS s3, ?_⟩
    rw [h 106 (by decide) (by decide), h 107 (by decide) (by decide), h 108 (by decide) (by decide)]
    rcases hk with h0 | ⟨h1, e0, e1, s1, s2⟩
    · exact Or.inl h0
    · exact Or.inr ⟨h1, e0, e1, hS s1, hS s2⟩
  have hL : ∀ {ix}, mLawOk B ix → mLawOk im ix := by
    intro ix k
    obtain ⟨b0, b1, k1, k2, k3, k4, k5⟩ := k
    exact ⟨b0, b1, k1, k2, by rw [h 104 (by decide) (by decide)]; exact k3, by rw [h 105 (by decide) (by decide)]; exact k4, fun c c1 c2 => hB (k5 c c1 c2)⟩
  exact ⟨hL k.1, hL k.2.1, hL k.2.2⟩
