/-! chances: class and reference -/
theorem C_less_loop (im : gm_I) (lm : gm_L) (ab be wb : Int32) : ∀ (k d r i : Nat) (x6 : Value), r < 2 ^ k → i + 2 * k ≤ 64 → d < 2 ^ 31 → r < 2 ^ 31 → x6.category = 1 → ∃ j x6', x6'.category = 1 ∧ gm_den 161 8 [.int ab, .int be, .int wb, .int (nI d), .int (nI r), .int (nI i), x6] [] 128 gm_RF im lm = gm_den 161 39 [.int ab, .int be, .int wb, .int (nI (Nat.gcd d r)), .int (nI 0), .int (nI j), x6'] [] 128 gm_RF im lm := by
  have ex : ∀ (d i : Nat) (x6 : Value), i ≤ 64 → gm_den 161 8 [.int ab, .int be, .int wb, .int (nI d), .int (nI 0), .int (nI i), x6] [] 128 gm_RF im lm = gm_den 161 39 [.int ab, .int be, .int wb, .int (nI d), .int (nI 0), .int (nI i), x6] [] 128 gm_RF im lm := by
    intro d i x6 hi
    rw [LX11_lessened_8]
    by_cases h : 64 ≤ i
    · have h1 : (64 : Int32) ≤ nI i := nI_le (a := 64) h (by omega)
      simp (decide := true) only [QX11_lessened, h1, if_true]
    · have h1 : ¬ (64 : Int32) ≤ nI i := nI_ge (b := 64) (by omega) (by decide)
      simp (decide := true) only [QX11_lessened, h1, if_true, if_false]
  have st : ∀ (d r i : Nat) (x6 : Value), i < 64 → 0 < r → d < 2 ^ 31 → r < 2 ^ 31 → x6.category = 1 → gm_den 161 8 [.int ab, .int be, .int wb, .int (nI d), .int (nI r), .int (nI i), x6] [] 128 gm_RF im lm = gm_den 161 8 [.int ab, .int be, .int wb, .int (nI r), .int (nI (d % r)), .int (nI (i + 1)), .int (nI (d % r))] [] 128 gm_RF im lm := by
    intro d r i x6 hi h0 hd hr c6
    rw [LX11_lessened_8]
    have h1 : ¬ (64 : Int32) ≤ nI i := nI_ge (b := 64) (by omega) (by decide)
    have hz : ¬ nI r = 0 := nI_ne0 h0 hr
    simp only [QX11_lessened, h1, if_true, if_false, hz, nI_mod hd h0 hr, gm_cat_i, c6, nI_a1, not_false_eq_true]
  intro k
  induction k with
  | zero =>
    intro d r i x6 hr hi _ _ c6
    have : r = 0 := by simp at hr; omega
    subst this
    exact ⟨i, x6, c6, by rw [ex d i x6 (by omega), Nat.gcd_zero_right]⟩
  | succ k ih =>
    intro d r i x6 hr hi hd hr2 c6
    by_cases h0 : r = 0
    · subst h0
      exact ⟨i, x6, c6, by rw [ex d i x6 (by omega), Nat.gcd_zero_right]⟩
    · have hm : d % r < r := Nat.mod_lt _ (by omega)
      have g1 : Nat.gcd d r = Nat.gcd r (d % r) := by rw [Nat.gcd_comm d r, Nat.gcd_rec r d, Nat.gcd_comm]
      rw [st d r i x6 (by omega) (by omega) hd hr2 c6]
      by_cases h1 : d % r = 0
      · refine ⟨i + 1, .int (nI (d % r)), rfl, ?_⟩
        rw [g1, h1, ex r (i + 1) _ (by omega), Nat.gcd_zero_right]
      · have hm2 : r % (d % r) < d % r := Nat.mod_lt _ (by omega)
        have hh : r % (d % r) < 2 ^ k := by
          have h5 := Nat.div_add_mod r (d % r)
          have h6 : 1 ≤ r / (d % r) := by
            rw [Nat.le_div_iff_mul_le (by omega)]; omega
          have h7 : d % r * 1 ≤ d % r * (r / (d % r)) := Nat.mul_le_mul_left _ h6
          rw [Nat.pow_succ] at hr
          omega
        have g2 : Nat.gcd r (d % r) = Nat.gcd (d % r) (r % (d % r)) := by rw [Nat.gcd_comm r, Nat.gcd_rec (d % r) r, Nat.gcd_comm]
        rw [st r (d % r) (i + 1) _ (by omega) (by omega) hr2 (by omega) rfl, g1, g2]
        exact ih (d % r) (r % (d % r)) (i + 1 + 1) _ hh (by omega) (by omega) (by omega) rfl
theorem C_lessened (im : gm_I) (lm : gm_L) {ab be : Nat} (hab : ab < 2 ^ 31) (hbe : be < 2 ^ 31) (h0 : 0 < be) (wb : Bool) : gm_den 161 0 [.int (nI ab), .int (nI be), .int (b32 wb), .null, .null, .null, .null] [] 128 gm_RF im lm = some (some (.int (nI ((if wb then be else ab) / Nat.gcd ab be))), 128, gm_RF, im, lm) := by
  obtain ⟨j, x6', c6', h1⟩ := C_less_loop im lm (nI ab) (nI be) (b32 wb) 31 be ab 0 .null hab (by omega) hbe hab rfl
  have hg : 0 < Nat.gcd be ab := Nat.gcd_pos_of_pos_left ab h0
  have hg2 : Nat.gcd be ab ≤ be := Nat.gcd_le_left ab h0
  have hz : ¬ nI (Nat.gcd be ab) = 0 := nI_ne0 hg (by omega)
  have n1 : Value.category .null = 1 := rfl
  have e0 : gm_den 161 0 [.int (nI ab), .int (nI be), .int (b32 wb), .null, .null, .null, .null] [] 128 gm_RF im lm = gm_den 161 8 [.int (nI ab), .int (nI be), .int (b32 wb), .int (nI be), .int (nI ab), .int (nI 0), .null] [] 128 gm_RF im lm := by
    simp only [QX11_lessened, gm_cat_i, n1]
    rfl
  rw [e0, h1, Nat.gcd_comm ab be]
  cases wb with
  | true => simp (decide := true) only [QX11_lessened, b32, if_true, if_false, gm_cat_i, hz, nI_div hbe hg (show Nat.gcd be ab < 2 ^ 31 by omega), c6', Bool.false_eq_true]
  | false => simp (decide := true) only [QX11_lessened, b32, if_true, if_false, gm_cat_i, hz, nI_div hab hg (show Nat.gcd be ab < 2 ^ 31 by omega), c6', Bool.false_eq_true]
theorem M_common_loop (im : gm_I) (lm : gm_L) (a b : Int32) : ∀ (y x : Nat) (x4 : Value), x < 2 ^ 31 → y < 2 ^ 31 → x4.category = 1 → gm_den 241 4 [.int a, .int b, .int (nI x), .int (nI y), x4] [] 128 gm_RF im lm = some (some (.int (nI (Nat.gcd x y))), 128, gm_RF, im, lm) := by
  intro y
  induction y using Nat.strongRecOn with
  | _ y ih =>
    intro x x4 hx hy c4
    rw [LX12_common_4]
    by_cases h0 : y = 0
    · subst h0
      simp (decide := true) only [QX12_common, if_true, if_false, Nat.gcd_zero_right]
    · have hz : ¬ nI y = 0 := nI_ne0 (by omega) hy
      have hm : x % y < y := Nat.mod_lt _ (by omega)
      have g1 : Nat.gcd x y = Nat.gcd y (x % y) := by rw [Nat.gcd_comm x y, Nat.gcd_rec y x, Nat.gcd_comm]
      simp only [QX12_common, hz, if_false, if_true, nI_mod hx (show 0 < y by omega) hy, gm_cat_i, c4, not_false_eq_true]
      rw [g1]
      exact ih (x % y) hm y _ hy (by omega) rfl
theorem M_common (im : gm_I) (lm : gm_L) {x y : Nat} (hx : x < 2 ^ 31) (hy : y < 2 ^ 31) : gm_den 241 0 [.int (nI x), .int (nI y), .null, .null, .null] [] 128 gm_RF im lm = some (some (.int (nI (Nat.gcd x y))), 128, gm_RF, im, lm) := by
  have h := M_common_loop im lm (nI x) (nI y) y x .null hx hy rfl
  have n1 : Value.category .null = 1 := rfl
  simp only [QX12_common, gm_cat_i, n1]
  exact h
theorem M_bits (im : gm_I) (lm : gm_L) {M : Nat} (hM : M < 256) : gm_den 201 0 [.int (nI M), .null, .null] [] 128 gm_RF im lm = some (some (.int (nI (pc M))), 128, gm_RF, im, lm) := by
  have lp : ∀ (w k : Nat), k + w = 8 → gm_den 201 4 [.int (nI M), .int (nI (gc (fun i => M.testBit i) k)), .int (nI k)] [] 128 gm_RF im lm = some (some (.int (nI (pc M))), 128, gm_RF, im, lm) := by
    intro w
    induction w with
    | zero =>
      intro k hk
      have : k = 8 := by omega
      subst this
      rw [LX12_bits_4]
      simp (decide := true) only [QX12_bits, if_true, pc]
    | succ w ih =>
      intro k hk
      have ih1 := ih (k + 1) (by omega)
      have hlt : ¬ (8 : Int32) ≤ nI k := nI_ge (b := 8) (by omega) (by decide)
      rw [LX12_bits_4]
      simp only [QX12_bits, hlt, if_false, bitn hM (show k < 8 by omega), nI_a1]
      have e : nI (gc (fun i => M.testBit i) k) + b32 (M.testBit k) = nI (gc (fun i => M.testBit i) (k + 1)) := by
        simp only [gc]
        by_cases hb : M.testBit k = true
        · simp only [hb, if_true, b32_t]; exact nI_a1 _
        · simp only [Bool.not_eq_true] at hb
          simp only [hb, b32_f, Int32.add_zero]; rfl
      rw [e]
      exact ih1
  have n1 : Value.category .null = 1 := rfl
  simp only [QX12_bits, gm_cat_i, n1]
  exact lp 8 0 rfl
theorem M_tens (im : gm_I) (lm : gm_L) {n : Nat} (hn : n ≤ 8) : gm_den 242 0 [.int (nI n), .null, .null] [] 128 gm_RF im lm = some (some (.int (nI (10 ^ n))), 128, gm_RF, im, lm) := by
  have lp : ∀ (w k : Nat), k + w = n → gm_den 242 4 [.int (nI n), .int (nI (10 ^ k)), .int (nI k)] [] 128 gm_RF im lm = some (some (.int (nI (10 ^ n))), 128, gm_RF, im, lm) := by
    intro w
    induction w with
    | zero =>
      intro k hk
      have : k = n := by omega
      subst this
      rw [LX12_tens_4]
      simp only [QX12_tens, nI_le (Nat.le_refl k) (show k < 2 ^ 31 by omega), if_true]
    | succ w ih =>
      intro k hk
      have ih1 := ih (k + 1) (by omega)
      have hlt : ¬ nI n ≤ nI k := nI_ge (by omega) (by omega)
      have e10 : nI (10 ^ k) * (10 : Int32) = nI (10 ^ (k + 1)) := by
        rw [show (10 : Int32) = nI 10 from rfl, nI_mul, Nat.pow_succ]
      rw [LX12_tens_4]
      simp only [QX12_tens, hlt, if_false, e10, nI_a1]
      exact ih1
  have n1 : Value.category .null = 1 := rfl
  simp only [QX12_tens, gm_cat_i, n1]
  exact lp n 0 (by omega)
theorem pc_gM (f : Nat → Bool) {n : Nat} (h : n ≤ 7) : pc (gM f n) = gc f n := by
  unfold pc
  rw [gc_out (fun i hi => gM_no f hi) 8 (by omega)]
  exact gc_M f (Nat.le_refl _)
theorem M_lineOf {B im : gm_I} {l nm nk nj ns : Nat} (hR : iRoll B l nm nk nj ns) (ho : Off B im) (m : Int32) (lm : gm_L) {sum : Nat} (hs : sum < 2 ^ 31) (wb : Bool) : gm_den 244 0 [.ref 84, .int (nI sum), .int m, .int (b32 wb), .null, .null] [] 128 gm_RF im lm = some (some (.int (nI ((if wb then 10 ^ gc (mSpk im m) nm else sum) / Nat.gcd sum (10 ^ gc (mSpk im m) nm)))), 128, gm_RF, im, lm) := by
  have hm7 := iR_nm hR
  have hle := gc_le (mSpk im m) nm
  have hM : mSp im nm m < 256 := by
    have := gM_128 (fun a => decide (im 117 (21 + a) = m)) hm7
    unfold mSp; omega
  have hpc : pc (mSp im nm m) = gc (mSpk im m) nm := pc_gM _ hm7
  have h1 := M_bits im lm hM
  rw [hpc] at h1
  have h7 := p107 (show gc (mSpk im m) nm ≤ 7 by omega)
  have hp : 0 < 10 ^ gc (mSpk im m) nm := Nat.pow_pos (by decide)
  have h2 := M_tens im lm (show gc (mSpk im m) nm ≤ 8 by omega)
  have h3 := M_common im lm hs (show 10 ^ gc (mSpk im m) nm < 2 ^ 31 by omega)
  have hg : 0 < Nat.gcd sum (10 ^ gc (mSpk im m) nm) := Nat.gcd_pos_of_pos_right sum hp
  have hg2 : Nat.gcd sum (10 ^ gc (mSpk im m) nm) ≤ 10 ^ gc (mSpk im m) nm := Nat.gcd_le_right sum hp
  have hz : ¬ nI (Nat.gcd sum (10 ^ gc (mSpk im m) nm)) = 0 := nI_ne0 hg (by omega)
  have n1 : Value.category .null = 1 := rfl
  cases wb with
  | true => simp (decide := true) only [QX12_lineOf, M_speakers hR ho, gm_cont_i, h1, h2, h3, gm_cat_i, n1, b32, if_true, if_false, hz, nI_div (show 10 ^ gc (mSpk im m) nm < 2 ^ 31 by omega) hg (show Nat.gcd sum (10 ^ gc (mSpk im m) nm) < 2 ^ 31 by omega)]
  | false => simp (decide := true) only [QX12_lineOf, M_speakers hR ho, gm_cont_i, h1, h2, h3, gm_cat_i, n1, b32, if_true, if_false, hz, nI_div hs hg (show Nat.gcd sum (10 ^ gc (mSpk im m) nm) < 2 ^ 31 by omega)]
/-- how likely a set of slips, by men -/
def mW (B : gm_I) (f : Nat → Bool) (t n : Nat) : Nat := fA f (fun x a => x * (if t.testBit a then slN B a else 10 - slN B a)) 1 n
theorem mW_le {B : gm_I} {l nm nk nj ns : Nat} (hR : iRoll B l nm nk nj ns) (f : Nat → Bool) (t n : Nat) (hn : n ≤ nm) : mW B f t n ≤ 10 ^ n := by
  induction n with
  | zero => exact Nat.le_refl _
  | succ n ih =>
    have h1 := ih (by omega)
    have h2 := (slN_ok hR (show n < nm by omega)).2
    unfold mW at *
    simp only [fA]
    rw [Nat.pow_succ]
    split
    · apply Nat.mul_le_mul h1
      split <;> omega
    · omega
theorem sub_all : ∀ s M : Fin 128, (nI s.val &&& (nI M.val ^^^ -1) = 0) ↔ (s.val &&& M.val == s.val) = true := by decide +kernel
theorem subn {s M : Nat} (hs : s < 128) (hM : M < 128) : (nI s &&& (nI M ^^^ -1) = 0) ↔ (s &&& M == s) = true := sub_all ⟨s, hs⟩ ⟨M, hM⟩
theorem mFall_noff {B im im' : gm_I} {l nm nj : Nat} {m : Int32} {SL : Nat} (h : nOff im im') : mFall B im' l nm nj m SL = mFall B im l nm nj m SL := by
  have e1 : mSpk im' m = mSpk im m := by funext a; unfold mSpk; rw [h.r]
  have e2 : mP im' l = mP im l := by funext a; unfold mP; rw [h.r, h.1 93 (by decide) (by decide) (by decide) (by decide) (by decide)]
  have e3 : ∀ a sl J, mSm B im' l nj a sl J = mSm B im l nj a sl J := fun a sl J => by unfold mSm; rw [mV_noff h, h.r]
  unfold mFall
  simp only [e1, e2, e3]
theorem rOk_r {im im' : gm_I} {nm ns : Nat} (h : nOff im im') (k : rOk (im 117) nm ns) : rOk (im' 117) nm ns := by rw [h.r]; exact k
section
variable {B : gm_I} {l nm nk nj ns : Nat}
theorem M_often_in (hR : iRoll B l nm nk nj ns) (im : gm_I) (ho : Off B im) (m : Int32) (lm : gm_L) (x2 sum : Int32) (t : Nat) (ht : t < 256) : ∀ (w a : Nat), a + w = nm → gm_den 243 36 [.ref 84, .int m, .int x2, .int (nI (mSp im nm m)), .int sum, .int (nI t), .int (nI (mW B (mSpk im m) t a)), .int (nI a)] [] 128 gm_RF im lm = gm_den 243 118 [.ref 84, .int m, .int x2, .int (nI (mSp im nm m)), .int sum, .int (nI t), .int (nI (mW B (mSpk im m) t nm)), .int (nI nm)] [] 128 gm_RF im lm := by
  have hm7 := iR_nm hR
  have hl2 := iR_l hR
  have hM : mSp im nm m < 256 := by
    have := gM_128 (fun a => decide (im 117 (21 + a) = m)) hm7
    unfold mSp; omega
  intro w
  induction w with
  | zero =>
    intro a hw
    have : a = nm := by omega
    subst this
    rw [LX12_oftenFalls_36]
    simp only [QX12_oftenFalls, iR_18 hR ho, i2 l hl2, iR_94 hR ho, nI_le (Nat.le_refl a) (show a < 2 ^ 31 by omega), if_true]
  | succ w ih =>
    intro a hw
    have ih1 := ih (a + 1) (by omega)
    have hlt : ¬ nI nm ≤ nI a := nI_ge (by omega) (by omega)
    obtain ⟨hs1, hs2⟩ := slN_ok hR (show a < nm by omega)
    have h97 : im 97 (7 * l + a) = nI (slN B a) := by rw [ho.1 97 rfl, (iR_man hR (show a < nm by omega)).2.2.1]; exact hs1
    have hbit : (mSp im nm m).testBit a = mSpk im m a := by unfold mSp mSpk; rw [gM_in _ (by omega)]
    rw [← ih1, LX12_oftenFalls_36]
    by_cases hf : mSpk im m a = true
    · have e : mW B (mSpk im m) t (a + 1) = mW B (mSpk im m) t a * (if t.testBit a then slN B a else 10 - slN B a) := by
        unfold mW; simp only [fA, hf, if_true]
      by_cases hb : t.testBit a = true
      · rw [e, if_pos hb]
        simp (decide := true) only [QX12_oftenFalls, iR_18 hR ho, i2 l hl2, iR_94 hR ho, hlt, if_true, if_false, bitn hM (show a < 8 by omega), hbit, hf, b32, bitn ht (show a < 8 by omega), hb, ix7 l a hl2 (show a < 7 by omega), h97, nI_mul, nI_a1]
      · rw [e, if_neg hb]
        simp only [Bool.not_eq_true] at hb
        have e10 : (10 : Int32) - nI (slN B a) = nI (10 - slN B a) := nI_sub (a := 10) hs2
        simp (decide := true) only [QX12_oftenFalls, iR_18 hR ho, i2 l hl2, iR_94 hR ho, hlt, if_true, if_false, bitn hM (show a < 8 by omega), hbit, hf, b32, bitn ht (show a < 8 by omega), hb, ix7 l a hl2 (show a < 7 by omega), h97, e10, nI_mul, nI_a1]
    · have e : mW B (mSpk im m) t (a + 1) = mW B (mSpk im m) t a := by
        unfold mW; simp only [fA, hf, if_false]; rfl
      simp only [Bool.not_eq_true] at hf
      rw [e]
      simp (decide := true) only [QX12_oftenFalls, iR_18 hR ho, i2 l hl2, iR_94 hR ho, hlt, if_true, if_false, bitn hM (show a < 8 by omega), hbit, hf, b32, nI_a1]
def ofF (B im : gm_I) (l nm nj : Nat) (m side : Int32) (x t : Nat) : Nat := if t &&& mSp im nm m == t then (if 0 < mW B (mSpk im m) t nm ∧ eO (mFall B im l nm nj m t) = side then x + mW B (mSpk im m) t nm else x) else x
theorem M_often_loop (hR : iRoll B l nm nk nj ns) (im0 : gm_I) (ho0 : Off B im0) (hr : rOk (im0 117) nm ns) (m side : Int32) (lm : gm_L) : ∀ (w t : Nat) (im : gm_I) (x6 x7 : Value), t + w = mSp im0 nm m + 1 → nOff im0 im → x6.category = 1 → x7.category = 1 → ∃ im', gm_den 243 12 [.ref 84, .int m, .int side, .int (nI (mSp im0 nm m)), .int (nI (fI (ofF B im0 l nm nj m side) 0 t)), .int (nI t), x6, x7] [] 128 gm_RF im lm = some (some (.int (nI (fI (ofF B im0 l nm nj m side) 0 (mSp im0 nm m + 1)))), 128, gm_RF, im', lm) ∧ nOff im0 im' := by
  have hm7 := iR_nm hR
  have hM : mSp im0 nm m < 128 := gM_128 (fun a => decide (im0 117 (21 + a) = m)) hm7
  intro w
  induction w with
  | zero =>
    intro t im x6 x7 hw hn c6 c7
    have : t = mSp im0 nm m + 1 := by omega
    subst this
    refine ⟨im, ?_, hn⟩
    rw [LX12_oftenFalls_12]
    have h1 : nI (mSp im0 nm m) < nI (mSp im0 nm m + 1) := nI_lt (by omega) (by omega)
    simp only [QX12_oftenFalls, h1, if_true]
  | succ w ih =>
    intro t im x6 x7 hw hn c6 c7
    have ho := ho0.tr hn.off
    have ht : t < 128 := by omega
    have h1 : ¬ nI (mSp im0 nm m) < nI t := nI_nlt (by omega) (by omega)
    have hsub := subn ht hM
    have esp : mSp im nm m = mSp im0 nm m := by unfold mSp; rw [hn.r]
    have espk : mSpk im m = mSpk im0 m := by funext a; unfold mSpk; rw [hn.r]
    rw [LX12_oftenFalls_12]
    by_cases hc : (t &&& mSp im0 nm m == t) = true
    · have hz := hsub.mpr hc
      have hin := M_often_in hR im ho m lm side (nI (fI (ofF B im0 l nm nj m side) 0 t)) t (by omega) nm 0 (by omega)
      rw [esp, espk] at hin
      have hW := mW_le hR (mSpk im0 m) t nm (Nat.le_refl _)
      have hW7 := p107 hm7
      have e0 : gm_den 243 36 [.ref 84, .int m, .int side, .int (nI (mSp im0 nm m)), .int (nI (fI (ofF B im0 l nm nj m side) 0 t)), .int (nI t), .int 1, .int 0] [] 128 gm_RF im lm = gm_den 243 118 [.ref 84, .int m, .int side, .int (nI (mSp im0 nm m)), .int (nI (fI (ofF B im0 l nm nj m side) 0 t)), .int (nI t), .int (nI (mW B (mSpk im0 m) t nm)), .int (nI nm)] [] 128 gm_RF im lm := hin
      by_cases hw0 : 0 < mW B (mSpk im0 m) t nm
      · have hle : ¬ nI (mW B (mSpk im0 m) t nm) ≤ 0 := nI_nle hw0 (by omega)
        obtain ⟨im2, h2, n2, -⟩ := M_fallsTo hR ho (rOk_r hn hr) m t (by omega) lm
        rw [mFall_noff hn] at h2
        by_cases hs : eO (mFall B im0 l nm nj m t) = side
        · obtain ⟨im', h3, h4⟩ := ih (t + 1) im2 (.int (nI (mW B (mSpk im0 m) t nm))) (.int (nI nm)) (by omega) (hn.tr n2) rfl rfl
          have e : fI (ofF B im0 l nm nj m side) 0 (t + 1) = fI (ofF B im0 l nm nj m side) 0 t + mW B (mSpk im0 m) t nm := by
            simp only [fI, ofF, hc, if_true, hw0, hs, and_self]
          rw [e] at h3
          refine ⟨im', ?_, h4⟩
          simp (decide := true) only [QX12_oftenFalls, h1, if_true, if_false, hz, gm_cat_i, c6, c7, e0, hle, h2, gm_cont_i, hs, nI_add, nI_a1, not_true_eq_false]
          exact h3
        · obtain ⟨im', h3, h4⟩ := ih (t + 1) im2 (.int (nI (mW B (mSpk im0 m) t nm))) (.int (nI nm)) (by omega) (hn.tr n2) rfl rfl
          have e : fI (ofF B im0 l nm nj m side) 0 (t + 1) = fI (ofF B im0 l nm nj m side) 0 t := by
            simp only [fI, ofF, hc, if_true, hs, and_false, if_false]
          rw [e] at h3
          refine ⟨im', ?_, h4⟩
          simp (decide := true) only [QX12_oftenFalls, h1, if_true, if_false, hz, gm_cat_i, c6, c7, e0, hle, h2, gm_cont_i, hs, nI_a1, not_false_eq_true]
          exact h3
      · have hw1 : mW B (mSpk im0 m) t nm = 0 := by omega
        have hle : nI (mW B (mSpk im0 m) t nm) ≤ 0 := by rw [hw1]; decide
        obtain ⟨im', h3, h4⟩ := ih (t + 1) im (.int (nI (mW B (mSpk im0 m) t nm))) (.int (nI nm)) (by omega) hn rfl rfl
        have e : fI (ofF B im0 l nm nj m side) 0 (t + 1) = fI (ofF B im0 l nm nj m side) 0 t := by
          simp only [fI, ofF, hc, if_true, hw0, false_and, if_false]
        rw [e] at h3
        refine ⟨im', ?_, h4⟩
        simp (decide := true) only [QX12_oftenFalls, h1, if_true, if_false, hz, gm_cat_i, c6, c7, e0, hle, nI_a1]
        exact h3
    · have hz : ¬ (nI t &&& (nI (mSp im0 nm m) ^^^ -1) = 0) := fun hh => hc (hsub.mp hh)
      obtain ⟨im', h3, h4⟩ := ih (t + 1) im x6 x7 (by omega) hn c6 c7
      have e : fI (ofF B im0 l nm nj m side) 0 (t + 1) = fI (ofF B im0 l nm nj m side) 0 t := by
        simp only [fI, ofF, if_neg hc]
      rw [e] at h3
      refine ⟨im', ?_, h4⟩
      simp (decide := true) only [QX12_oftenFalls, h1, if_true, if_false, hz, nI_a1, not_false_eq_true]
      exact h3
theorem M_oftenFalls (hR : iRoll B l nm nk nj ns) {im : gm_I} (ho : Off B im) (hr : rOk (im 117) nm ns) (m side : Int32) (lm : gm_L) : ∃ im', gm_den 243 0 [.ref 84, .int m, .int side, .null, .null, .null, .null, .null] [] 128 gm_RF im lm = some (some (.int (nI (fI (ofF B im l nm nj m side) 0 128))), 128, gm_RF, im', lm) ∧ nOff im im' := by
  have hm7 := iR_nm hR
  have hM : mSp im nm m < 128 := gM_128 (fun a => decide (im 117 (21 + a) = m)) hm7
  obtain ⟨im', h1, h2⟩ := M_often_loop hR im ho hr m side lm (mSp im nm m + 1) 0 im .null .null (by omega) (nOff.rf im) rfl rfl
  have ext : ∀ w, fI (ofF B im l nm nj m side) 0 (mSp im nm m + 1 + w) = fI (ofF B im l nm nj m side) 0 (mSp im nm m + 1) := by
    intro w
    induction w with
    | zero => rfl
    | succ w ih =>
      have hgt : ¬ ((mSp im nm m + 1 + w &&& mSp im nm m == mSp im nm m + 1 + w) = true) := by
        intro hh
        have h9 : (mSp im nm m + 1 + w) &&& mSp im nm m ≤ mSp im nm m := Nat.and_le_right
        rw [beq_iff_eq] at hh
        omega
      show ofF B im l nm nj m side (fI (ofF B im l nm nj m side) 0 (mSp im nm m + 1 + w)) (mSp im nm m + 1 + w) = _
      rw [ih]
      unfold ofF
      rw [if_neg hgt]
  have e := ext (128 - (mSp im nm m + 1))
  rw [show mSp im nm m + 1 + (128 - (mSp im nm m + 1)) = 128 by omega] at e
  refine ⟨im', ?_, h2⟩
  rw [e, ← h1]
  have n1 : Value.category .null = 1 := rfl
  simp only [QX12_oftenFalls, M_speakers hR ho, gm_cont_i, gm_cat_i, n1]
  rfl
end
/-- the class's chance is the reference's -/
theorem chance_eq {B im : gm_I} {l nm nk nj ns : Nat} (hR : iRoll B l nm nk nj ns) {m side : Int32} {f : Nat → Bool} (h0 : ∀ a, a < nm → mSpk im m a = f a) (v0 v1 : Nat → Nat → Int32) (h1 : ∀ a, a < nm → f a = true → ∀ t, vEq (mV im l a (im 117 (28 + a)) (b32 (Nat.testBit t a))) (if t.testBit a then v1 a else v0 a)) : fI (chF side (fun s => gW B f nm s (gc f nm)) (fun s => vFall B nj f nm (fun a => if s.testBit (gc f a) then v1 a else v0 a))) 0 (2 ^ gc f nm) = fI (ofF B im l nm nj m side) 0 128 := by
  have hm7 := iR_nm hR
  have eM : mSp im nm m = gM f nm := gM_ext h0
  have eW : ∀ t, mW B (mSpk im m) t nm = mW B f t nm := fun t => fA_ext h0 (fun _ _ _ _ => rfl)
  have eF : ∀ t, mFall B im l nm nj m t = vFall B nj f nm (fun a => if t.testBit a then v1 a else v0 a) := fun t => mFall_v t h0 (fun a ha hf => h1 a ha hf t)
  let G : Nat → Nat → Nat := fun x t => if 0 < mW B f t nm ∧ eO (vFall B nj f nm (fun a => if t.testBit a then v1 a else v0 a)) = side then x + mW B f t nm else x
  have hG := set_fold f hm7 G 0
  have e1 : fI (ofF B im l nm nj m side) 0 128 = fI (fun x s => if s &&& gM f nm == s then G x s else x) 0 128 := by
    apply fI_ext
    intro x t _
    unfold ofF
    rw [eM, eW, eF]
  rw [e1, ← hG]
  apply fI_ext
  intro x s hs
  have w1 : gW B f nm s (gc f nm) = mW B f (spr f nm s) nm := by
    unfold gW mW
    rw [fI_wh f (fun x a i => wF B s x a i)]
    apply fA_ext (fun _ _ => rfl)
    intro x a ha hf
    unfold wF
    rw [spr_bit f s ha hf]
  have w2 : vFall B nj f nm (fun a => if s.testBit (gc f a) then v1 a else v0 a) = vFall B nj f nm (fun a => if (spr f nm s).testBit a then v1 a else v0 a) := by
    apply vFall_ext (fun _ _ => rfl)
    intro a ha hf
    rw [spr_bit f s ha hf]
    exact vEq.rf _
  show chF side (fun s => gW B f nm s (gc f nm)) _ x s = G x (spr f nm s)
  unfold chF
  simp only [w1, w2]
  rfl
