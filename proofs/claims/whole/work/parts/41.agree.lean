/-! all that lasts, and what it is to answer alike -/
def cwd (w : Nat) : List Nat := match w with
  | 0 => [19, 9, 4, 5, 19]
  | 1 => [13, 1, 14]
  | 2 => [13, 15, 20, 9, 15, 14]
  | 3 => [10, 21, 18, 15, 18]
  | 4 => [19, 5, 5, 4]
  | 5 => [1, 18, 7, 21, 5, 19]
  | 6 => [13, 1, 18, 11, 19]
  | 7 => [6, 9, 14, 5, 19]
  | 8 => [9, 6]
  | 9 => [20, 8, 5, 14]
  | 10 => [5, 12, 19, 5]
  | 11 => [19, 11, 9, 12, 12]
  | 12 => [13, 1, 14, 14, 5, 18]
  | 13 => [19, 12, 9, 16]
  | 14 => [16, 18, 1, 9, 19, 5]
  | 15 => [4, 1, 25]
  | 16 => [7, 15, 15, 4]
  | 17 => [12, 5, 1, 14]
  | 18 => [23, 8, 9, 3, 8]
  | 19 => [19, 23, 15, 18, 14]
  | _ => []
def kprm (k : Nat) : Nat := if k = 4 then 5 else if k = 5 then 6 else if k = 6 then 7 else if k = 7 then 4 else k
def pkL (b : Nat) (L : List Nat) : Nat := L.foldl (fun x c => x * b + c) 0
def lmR (lm : gm_L) : Prop := (∀ w, w < 20 → lm 4 w = Int64.ofNat (pkL 32 (cwd w))) ∧ ∀ k, k < 20 → lm 91 k = Int64.ofNat (pkL 27 (cwd (kprm k)))
def pastR (B : gm_I) (nm nk ns : Nat) : Prop := ∃ nx sz, nx < 40 ∧ sz ≤ 40 ∧ B 23 2 = nI nx ∧ B 23 3 = nI sz ∧ B 84 54 = nI sz ∧ ∀ k, k < sz → rRel (B (25 + (nx + 40 - sz + k) % 40)) (fun i => B 120 (80 * k + i)) nm nk ns
def slotR (B : gm_I) (nm nk ns : Nat) : Prop := ∃ hd, hd < 8 ∧ B 23 4 = nI hd ∧ ∀ s, s < 3 → B 126 s = b32 (hd.testBit s) ∧ (hd.testBit s = true → rRel (B (66 + s)) (fun i => B 127 (80 * s + i)) nm nk ns)
def toldR (B : gm_I) : Prop := ∃ t, t ≤ 20 ∧ B 0 11 = nI t ∧ B 84 61 = nI t ∧ ∀ i, i < t → B 82 i = B 123 i ∧ B 83 i = B 124 i
def tapeR (B : gm_I) : Prop := ∃ k, k ≤ 2000 ∧ B 0 1 = nI k ∧ B 84 2 = nI k ∧ ∀ i, i < k → B 85 i = B 1 i ∧ ∃ b, b < 256 ∧ B 1 i = (nI b).toInt8.toInt32
def Inv (B : gm_I) (lm : gm_L) (l nm nk nj ns : Nat) : Prop := iRoll B l nm nk nj ns ∧ rRel (B 22) (B 116) nm nk ns ∧ pastR B nm nk ns ∧ slotR B nm nk ns ∧ toldR B ∧ tapeR B ∧ B 0 2 = B 84 17 ∧ lmR lm
def LK (lm lm' : gm_L) : Prop := lm' 4 = lm 4 ∧ lm' 91 = lm 91
theorem LK.rf (lm : gm_L) : LK lm lm := ⟨rfl, rfl⟩
theorem LK.tr {a b c : gm_L} (h : LK a b) (k : LK b c) : LK a c := ⟨k.1.trans h.1, k.2.trans h.2⟩
theorem Fr.lk {L : List Nat} {a b : gm_L} (h : Fr L a b) (h1 : 4 ∉ L) (h2 : 91 ∉ L) : LK a b := ⟨h 4 h1, h 91 h2⟩
theorem lmR_lk {a b : gm_L} (h : LK a b) (k : lmR a) : lmR b := by unfold lmR; rw [h.1, h.2]; exact k
theorem iRoll_off {B im : gm_I} {l nm nk nj ns : Nat} (ho : Off B im) (h : iRoll B l nm nk nj ns) : iRoll im l nm nk nj ns := by
  obtain ⟨h1, h2, h3, h4, h5, h6, h7, h8, h9⟩ := h
  refine ⟨h1, ?_, ?_, ?_, ?_, ?_, cLawsOk_B ho h7, ⟨mLaws_B ho.law h8.1, mHalf_B ho.law h8.2⟩, fun k va hk => ?_⟩
  · rw [ho.2 18 rfl, ho.1 11 rfl]; exact h2
  · rw [ho.1 93 rfl, ho.1 94 rfl, ho.1 99 rfl, ho.1 101 rfl, ho.1 103 rfl, ho.1 11 rfl]; exact h3
  · rw [ho.1 95 rfl, ho.1 96 rfl, ho.1 97 rfl, ho.1 98 rfl, ho.1 12 rfl]; exact h4
  · rw [ho.1 100 rfl, ho.1 13 rfl]; exact h5
  · rw [ho.1 102 rfl, ho.1 14 rfl]; exact h6
  · rw [cLaw_B ho h7]
    unfold mLawX
    rw [mLaw_B ho.law]
    exact h9 k va hk
theorem gs_done {q : Nat} (h : q < 40) : gs (25 + q) = false := by
  have : ∀ q : Fin 40, gs (25 + q.val) = false := by decide
  exact this ⟨q, h⟩
theorem gs_slot {q : Nat} (h : q < 3) : gs (66 + q) = false := by
  have : ∀ q : Fin 3, gs (66 + q.val) = false := by decide
  exact this ⟨q, h⟩
theorem Inv_off {B im : gm_I} {lm lm' : gm_L} {l nm nk nj ns : Nat} (h : Inv B lm l nm nk nj ns) (ho : Off B im) (hk : LK lm lm') : Inv im lm' l nm nk nj ns := by
  obtain ⟨h1, h2, h3, h4, h5, h6, h7, h8⟩ := h
  refine ⟨iRoll_off ho h1, ?_, ?_, ?_, ?_, ?_, ?_, lmR_lk hk h8⟩
  · rw [ho.1 22 rfl, ho.1 116 rfl]; exact h2
  · obtain ⟨nx, sz, a1, a2, a3, a4, a5, a6⟩ := h3
    refine ⟨nx, sz, a1, a2, ?_, ?_, ?_, fun k hk => ?_⟩
    · rw [ho.1 23 rfl]; exact a3
    · rw [ho.1 23 rfl]; exact a4
    · rw [ho.2 54 rfl]; exact a5
    · rw [ho.1 _ (gs_done (Nat.mod_lt _ (by decide))), ho.1 120 rfl]; exact a6 k hk
  · obtain ⟨hd, a1, a2, a3⟩ := h4
    refine ⟨hd, a1, ?_, fun s hs => ?_⟩
    · rw [ho.1 23 rfl]; exact a2
    · rw [ho.1 126 rfl, ho.1 127 rfl, ho.1 _ (gs_slot hs)]; exact a3 s hs
  · obtain ⟨t, a1, a2, a3, a4⟩ := h5
    refine ⟨t, a1, ?_, ?_, fun i hi => ?_⟩
    · rw [ho.1 0 rfl]; exact a2
    · rw [ho.2 61 rfl]; exact a3
    · rw [ho.1 82 rfl, ho.1 83 rfl, ho.1 123 rfl, ho.1 124 rfl]; exact a4 i hi
  · obtain ⟨k, a1, a2, a3, a4⟩ := h6
    refine ⟨k, a1, ?_, ?_, fun i hi => ?_⟩
    · rw [ho.1 0 rfl]; exact a2
    · rw [ho.2 2 rfl]; exact a3
    · rw [ho.1 85 rfl, ho.1 1 rfl]; exact a4 i hi
  · rw [ho.1 0 rfl, ho.2 17 rfl]; exact h7
/-- the class's call and then the reference's: the same answer, and all that lasts still fits -/
def Agr (kc km : Nat) (as bs : List Value) : Prop := ∀ (im : gm_I) (lm : gm_L) (l nm nk nj ns : Nat), Inv im lm l nm nk nj ns → ∃ (v : Int32) (im1 : gm_I) (lm1 : gm_L) (im2 : gm_I) (lm2 : gm_L) (l' nm' nk' nj' ns' : Nat), gm_den kc 0 as [] 128 gm_RF im lm = some (some (.int v), 128, gm_RF, im1, lm1) ∧ gm_den km 0 bs [] 128 gm_RF im1 lm1 = some (some (.int v), 128, gm_RF, im2, lm2) ∧ Inv im2 lm2 l' nm' nk' nj' ns'
/-- a question changes nothing that lasts -/
theorem agrQ {kc km : Nat} {as bs : List Value} (h : ∀ (B : gm_I) (lm : gm_L) (l nm nk nj ns : Nat), Inv B lm l nm nk nj ns → ∃ v : Int32, (∃ im1 lm1, gm_den kc 0 as [] 128 gm_RF B lm = some (some (.int v), 128, gm_RF, im1, lm1) ∧ Off B im1 ∧ LK lm lm1) ∧ ∀ (im : gm_I) (lm1 : gm_L), Off B im → LK lm lm1 → ∃ im1 lm2, gm_den km 0 bs [] 128 gm_RF im lm1 = some (some (.int v), 128, gm_RF, im1, lm2) ∧ Off B im1 ∧ LK lm lm2) : Agr kc km as bs := by
  intro im lm l nm nk nj ns hI
  obtain ⟨v, ⟨im1, lm1, h1, o1, k1⟩, h2⟩ := h im lm l nm nk nj ns hI
  obtain ⟨im2, lm2, h2, o2, k2⟩ := h2 im1 lm1 o1 k1
  exact ⟨v, im1, lm1, im2, lm2, l, nm, nk, nj, ns, h1, h2, Inv_off hI o2 k2⟩
/-- in the range or not -/
def okI (n : Nat) (a : Int32) : Bool := decide (0 ≤ a ∧ a < nI n)
theorem okI_t {n : Nat} (hn : n < 2 ^ 31) {a : Int32} (h : okI n a = true) : ∃ j, j < n ∧ a = nI j := by
  simp only [okI, decide_eq_true_eq] at h
  obtain ⟨j, hj, rfl⟩ := nI_of (Int32.not_lt.mpr h.1)
  refine ⟨j, ?_, rfl⟩
  apply Classical.byContradiction
  intro hc
  exact (Int32.not_lt.mpr (nI_le (a := n) (b := j) (by omega) hj)) h.2
theorem okI_n {n j : Nat} (hn : n < 2 ^ 31) (hj : j < n) : okI n (nI j) = true := by
  simp only [okI, decide_eq_true_eq]
  exact ⟨nI_le (a := 0) (Nat.zero_le _) (by omega), nI_lt hj hn⟩
theorem okI_le {n : Nat} (hn : n ≤ 100) (a : Int32) : (0 ≤ a ∧ a ≤ nI n - 1) ↔ okI n a = true := by
  by_cases h0 : n = 0
  · subst h0
    constructor
    · intro ⟨h1, h2⟩
      have : nI 0 - 1 < 0 := by decide
      exact absurd (Int32.lt_of_le_of_lt h2 this) (Int32.not_lt.mpr h1)
    · intro h
      obtain ⟨j, hj, -⟩ := okI_t (by omega) h
      omega
  · rw [nI_m1 (by omega)]
    constructor
    · intro ⟨h1, h2⟩
      obtain ⟨j, hj, rfl⟩ := nI_of (Int32.not_lt.mpr h1)
      apply okI_n (by omega)
      apply Classical.byContradiction
      intro hc
      exact (Int32.not_le.mpr (nI_lt (a := n - 1) (b := j) (by omega) hj)) h2
    · intro h
      obtain ⟨j, hj, rfl⟩ := okI_t (by omega) h
      exact ⟨nI_le (a := 0) (Nat.zero_le _) (by omega), nI_le (by omega) (by omega)⟩
theorem if_b32 {P : Prop} [Decidable P] {b : Bool} (h : P ↔ b = true) : (if P then (1 : Int32) else 0) = b32 b := by
  cases b with
  | true => rw [if_pos (h.mpr rfl)]; rfl
  | false => rw [if_neg (fun hh => by cases h.mp hh)]; rfl
section
variable {B im : gm_I} {l nm nk nj ns : Nat}
theorem okI_iff (n : Nat) (a : Int32) : (0 ≤ a ∧ a < nI n) ↔ okI n a = true := by simp [okI]
theorem Cg_man (hR : iRoll B l nm nk nj ns) (ho : Off B im) (a : Int32) (lm : gm_L) : gm_den 146 0 [.ref 0, .int a] [] 128 gm_RF im lm = some (some (.int (b32 (okI nm a))), 128, gm_RF, im, lm) := by
  rw [C_isMan, iR_112 hR ho, if_b32 (okI_iff nm a)]
theorem Cg_mot (hR : iRoll B l nm nk nj ns) (ho : Off B im) (a : Int32) (lm : gm_L) : gm_den 147 0 [.ref 0, .int a] [] 128 gm_RF im lm = some (some (.int (b32 (okI nk a))), 128, gm_RF, im, lm) := by
  rw [C_isMotion, iR_113 hR ho, if_b32 (okI_iff nk a)]
theorem Cg_sid (hR : iRoll B l nm nk nj ns) (ho : Off B im) (a : Int32) (lm : gm_L) : gm_den 148 0 [.ref 0, .int a] [] 128 gm_RF im lm = some (some (.int (b32 (okI ns a))), 128, gm_RF, im, lm) := by
  rw [C_isSide, iR_110 hR ho, if_b32 (okI_iff ns a)]
theorem Cg_mnr (a : Int32) (im : gm_I) (lm : gm_L) : gm_den 149 0 [.int a] [] 128 gm_RF im lm = some (some (.int (b32 (okI 4 a))), 128, gm_RF, im, lm) := by
  rw [C_isManner]
  rw [show (4 : Int32) = nI 4 from rfl, if_b32 (okI_iff 4 a)]
theorem Mg_in {n : Nat} (hn : n ≤ 100) (a : Int32) (im : gm_I) (lm : gm_L) : gm_den 200 0 [.int a, .int 0, .int (nI n - 1)] [] 128 gm_RF im lm = some (some (.int (b32 (okI n a))), 128, gm_RF, im, lm) := by
  rw [M_in, if_b32 (okI_le hn a)]
theorem lvOk (hR : iRoll B l nm nk nj ns) (ho : Off B im) : mLvOk im ∧ mLv im = l := by
  unfold mLvOk mLv
  rw [iR_18 hR ho]
  exact i2 l (iR_l hR)
theorem Mg_man (hR : iRoll B l nm nk nj ns) (ho : Off B im) (a : Int32) (lm : gm_L) : gm_den 202 0 [.ref 84, .int a] [] 128 gm_RF im lm = some (some (.int (b32 (okI nm a))), 128, gm_RF, im, lm) := by
  have := iR_nm hR
  rw [M_isMan a im lm (lvOk hR ho).1, (lvOk hR ho).2, iR_94 hR ho, if_b32 (okI_le (by omega) a)]
theorem Mg_mot (hR : iRoll B l nm nk nj ns) (ho : Off B im) (a : Int32) (lm : gm_L) : gm_den 203 0 [.ref 84, .int a] [] 128 gm_RF im lm = some (some (.int (b32 (okI nk a))), 128, gm_RF, im, lm) := by
  have := iR_nk hR
  rw [M_isMotion a im lm (lvOk hR ho).1, (lvOk hR ho).2, iR_99 hR ho, if_b32 (okI_le (by omega) a)]
theorem Mg_sid (hR : iRoll B l nm nk nj ns) (ho : Off B im) (a : Int32) (lm : gm_L) : gm_den 204 0 [.ref 84, .int a] [] 128 gm_RF im lm = some (some (.int (b32 (okI ns a))), 128, gm_RF, im, lm) := by
  have := iR_ns hR
  rw [M_isSide a im lm (lvOk hR ho).1, (lvOk hR ho).2, iR_93 hR ho, if_b32 (okI_le (by omega) a)]
theorem Mg_mnr (a : Int32) (im : gm_I) (lm : gm_L) : gm_den 200 0 [.int a, .int 0, .int 3] [] 128 gm_RF im lm = some (some (.int (b32 (okI 4 a))), 128, gm_RF, im, lm) := Mg_in (n := 4) (by decide) a im lm
theorem Mg_jur (hR : iRoll B l nm nk nj ns) (ho : Off B im) (a : Int32) (lm : gm_L) : gm_den 200 0 [.int a, .int 0, .int (im 101 l - 1)] [] 128 gm_RF im lm = some (some (.int (b32 (okI nj a))), 128, gm_RF, im, lm) := by
  have := iR_nj hR
  rw [iR_101 hR ho, Mg_in (by omega)]
/-- is he silent -/
theorem Cg_sil (ho : Off B im) {a : Nat} (ha : a < 7) (lm : gm_L) : gm_den 150 0 [.ref 0, .int (nI a)] [] 128 gm_RF im lm = some (some (.int (if B 22 (10 * a + 3) = -2 then 1 else 0)), 128, gm_RF, im, lm) := by
  rw [C_isSilent a im lm ha, ho.1 22 rfl]
end
theorem rngS (n : Nat) (hn : n < 2 ^ 31) (x : Int32) : (∃ k, k ≤ n ∧ x = nI k) ∨ (x.toInt < 0 ∨ (n : Int) < x.toInt) := by
  by_cases h : x.toInt < 0 ∨ (n : Int) < x.toInt
  · exact Or.inr h
  · have h0 : ¬ x < 0 := by
      intro hc
      rw [Int32.lt_iff_toInt_lt] at hc
      simp at hc
      omega
    obtain ⟨k, hk, rfl⟩ := nI_of h0
    rw [nI_toInt hk] at h
    exact Or.inl ⟨k, by omega, rfl⟩
