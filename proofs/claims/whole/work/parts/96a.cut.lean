/-! the reference cuts its text -/
def kinv (w : Nat) : Nat := if w = 4 then 7 else if w = 5 then 4 else if w = 6 then 5 else if w = 7 then 6 else w
/-- kinds as the reference numbers them -/
def rK (k : Nat) : Nat := if k = 0 then 3 else if k = 3 then 0 else if k = 59 then 4 else if k = 61 then 5 else if k = 40 then 6 else if k = 41 then 7 else if k = 43 then 8 else if k = 45 then 9 else if k = 42 then 10 else if k = 60 then 13 else if k = 47 then 15 else if 128 ≤ k then 20 + kinv (k - 128) else k
def mTX (im : gm_I) (tb : Nat → Nat) (n : Nat) : Prop := n ≤ 2000 ∧ im 84 4 = nI n ∧ ∀ i, i < n → tb i < 256 ∧ im 86 i = byN (tb i)
def tbz (tb : Nat → Nat) (n i : Nat) : Nat := if i < n then tb i else 0
section
variable {im : gm_I} {tb : Nat → Nat} {n : Nat}
theorem M_byteAt (h : mTX im tb n) {i : Nat} (hi : i ≤ 4000) (lm : gm_L) : gm_den 168 0 [.ref 84, .int (nI i)] [] 128 gm_RF im lm = some (some (.int (nI (tbz tb n i))), 128, gm_RF, im, lm) := by
  obtain ⟨h1, h2, h3⟩ := h
  unfold tbz
  by_cases hin : i < n
  · obtain ⟨hb, ht⟩ := h3 i hin
    have c1 : ¬ nI n ≤ nI i := nI_ge hin (by omega)
    have c2 : gm_in (nI i) 2000 = true := gm_in_nI (by omega) (by decide)
    have c3 : (nI i).toNatClampNeg = i := nI_clamp (by omega)
    have c4 := (by_fin ⟨tb i, hb⟩).2.1
    simp only [] at c4
    rw [if_pos hin]
    simp (decide := true) only [QX12_byteAt, h2, c1, c2, c3, ht, c4, if_true, if_false]
  · have c1 : nI n ≤ nI i := nI_le (by omega) (by omega)
    rw [if_neg hin]
    simp (decide := true) only [QX12_byteAt, h2, c1, if_true]; rfl
theorem M_isLet {c : Nat} (hc : c < 256) (im : gm_I) (lm : gm_L) : gm_den 170 0 [.int (nI c)] [] 128 gm_RF im lm = some (some (.int (b32 (txL c))), 128, gm_RF, im, lm) := by
  by_cases h1 : c < 97
  · have e : nI c < 97 := nI_lt (b := 97) h1 (by decide)
    have : txL c = false := by unfold txL; simp; omega
    rw [this]
    simp (decide := true) only [QX12_isLetter, e, if_true]; rfl
  · have e : ¬ nI c < 97 := nI_nlt (b := 97) (by omega) (by omega)
    by_cases h2 : c ≤ 122
    · have e2 : ¬ (122 : Int32) < nI c := nI_nlt (a := 122) h2 (by omega)
      have : txL c = true := by unfold txL; simp; omega
      rw [this]
      simp (decide := true) only [QX12_isLetter, e, e2, if_true, if_false]; rfl
    · have e2 : (122 : Int32) < nI c := nI_lt (a := 122) (by omega) (by omega)
      have : txL c = false := by unfold txL; simp; omega
      rw [this]
      simp (decide := true) only [QX12_isLetter, e, e2, if_true, if_false]; rfl
theorem M_isDig {c : Nat} (hc : c < 256) (im : gm_I) (lm : gm_L) : gm_den 169 0 [.int (nI c)] [] 128 gm_RF im lm = some (some (.int (b32 (txD c))), 128, gm_RF, im, lm) := by
  by_cases h1 : c < 48
  · have e : nI c < 48 := nI_lt (b := 48) h1 (by decide)
    have : txD c = false := by unfold txD; simp; omega
    rw [this]
    simp (decide := true) only [QX12_isDigit, e, if_true]; rfl
  · have e : ¬ nI c < 48 := nI_nlt (b := 48) (by omega) (by omega)
    by_cases h2 : c ≤ 57
    · have e2 : ¬ (57 : Int32) < nI c := nI_nlt (a := 57) h2 (by omega)
      have : txD c = true := by unfold txD; simp; omega
      rw [this]
      simp (decide := true) only [QX12_isDigit, e, e2, if_true, if_false]; rfl
    · have e2 : (57 : Int32) < nI c := nI_lt (a := 57) (by omega) (by omega)
      have : txD c = false := by unfold txD; simp; omega
      rw [this]
      simp (decide := true) only [QX12_isDigit, e, e2, if_true, if_false]; rfl
/-- the memory with one token more -/
def tkM (im : gm_I) (t : Nat) (k p v : Int32) : gm_I := gm_up (gm_up (gm_up (gm_up im 87 t k) 88 t p) 89 t v) 84 10 (nI (t + 1))
theorem M_token {t : Nat} (ht : t < 403) (h : im 84 10 = nI t) (k p v : Int32) (nm : Int64) (lm : gm_L) : gm_den 173 0 [.ref 84, .int k, .int p, .int v, .long nm, .null] [] 128 gm_RF im lm = some (none, 128, gm_RF, tkM im t k p v, gm_up lm 90 t nm) := by
  have c2 : gm_in (nI t) 403 = true := gm_in_nI ht (by decide)
  have c3 : (nI t).toNatClampNeg = t := nI_clamp (by omega)
  have e1 : gm_up im 87 t k 84 10 = nI t := by rw [gu_ne (by decide)]; exact h
  have e2 : gm_up (gm_up im 87 t k) 88 t p 84 10 = nI t := by rw [gu_ne (by decide)]; exact e1
  have e3 : gm_up (gm_up (gm_up im 87 t k) 88 t p) 89 t v 84 10 = nI t := by rw [gu_ne (by decide)]; exact e2
  unfold tkM
  simp (decide := true) only [QX12_token, h, c2, c3, e1, e2, e3, if_true, nI_a1]
end
/-- tokens as the reference holds them -/
def mTk1 (im : gm_I) (lm : gm_L) (K V P W : Nat → Nat) (x : Nat) : Prop := im 87 x = nI (rK (K x)) ∧ im 88 x = nI (P x) ∧ (K x = 2 → im 89 x = nI (V x)) ∧ (K x = 1 → lm 90 x = Int64.ofNat (W x))
def mTks (im : gm_I) (lm : gm_L) (K V P W : Nat → Nat) (t : Nat) : Prop := ∀ x, x < t → mTk1 im lm K V P W x
theorem mTks_add {im : gm_I} {lm : gm_L} {K V P W : Nat → Nat} {t : Nat} (h : mTks im lm K V P W t) {k p v : Int32} {nm : Int64} (h1 : k = nI (rK (K t))) (h2 : p = nI (P t)) (h3 : K t = 2 → v = nI (V t)) (h4 : K t = 1 → nm = Int64.ofNat (W t)) : mTks (tkM im t k p v) (gm_up lm 90 t nm) K V P W (t + 1) := by
  intro x hx
  unfold mTk1 tkM
  by_cases e : x = t
  · subst e
    refine ⟨?_, ?_, fun hk => ?_, fun hk => ?_⟩
    · rw [gu_ne (by decide), gu_ne (by decide), gu_ne (by decide), gu_eq]; exact h1
    · rw [gu_ne (by decide), gu_ne (by decide), gu_eq]; exact h2
    · rw [gu_ne (by decide), gu_eq]; exact h3 hk
    · rw [gu_eq]; exact h4 hk
  · obtain ⟨a, b, c, d⟩ := h x (by omega)
    refine ⟨?_, ?_, fun hk => ?_, fun hk => ?_⟩
    · rw [gu_ne (by decide), gu_ne (by decide), gu_ne (by decide), gu_nk e]; exact a
    · rw [gu_ne (by decide), gu_ne (by decide), gu_nk e, gu_ne (by decide)]; exact b
    · rw [gu_ne (by decide), gu_nk e, gu_ne (by decide), gu_ne (by decide)]; exact c hk
    · rw [gu_nk e]; exact d hk
theorem tkM_fr (im : gm_I) (t : Nat) (k p v : Int32) : Fr [84, 87, 88, 89] im (tkM im t k p v) ∧ (∀ j, j ≠ 10 → tkM im t k p v 84 j = im 84 j) ∧ tkM im t k p v 84 10 = nI (t + 1) := by
  unfold tkM
  refine ⟨(((Fr.up1 (by decide)).up (by decide)).up (by decide)).up (by decide), fun j hj => ?_, gu_eq⟩
  rw [gu_nk hj, gu_ne (by decide), gu_ne (by decide), gu_ne (by decide)]
/-- letters -/
theorem i64_27 (v c : Nat) (h : 97 ≤ c) (h2 : c ≤ 122) : apx (Int64.ofNat v) (nI c) = Int64.ofNat (v * 27 + (c - 96)) := by
  unfold apx
  rw [if_neg (nI_ne0 (by omega) (by omega))]
  have e1 : nI c - 97 + 1 = nI (c - 96) := by
    rw [show (97 : Int32) = nI 97 from rfl, nI_sub h, nI_a1, show c - 97 + 1 = c - 96 by omega]
  rw [e1, nI_i64 (by omega), Int64.ofNat_add, Int64.ofNat_mul, Int64.mul_comm]
  rfl
section
variable {im : gm_I} {tb : Nat → Nat} {n : Nat}
theorem M_lets (h : mTX im tb n) {p : Nat} (hp : p ≤ n) (x2 : Int32) (x6 x7 : Value) (lm : gm_L) : ∀ w j : Nat, n ≤ p + j + w → p + j ≤ n → gm_den 174 85 [.ref 84, .int (nI p), .int x2, .int (nI j), .long (Int64.ofNat (pkG 27 (tkd tb p) (min 8 j))), .null, x6, x7] [] 128 gm_RF im lm = gm_den 174 124 [.ref 84, .int (nI p), .int x2, .int (nI (txR txL tb n (p + j) - p)), .long (Int64.ofNat (pkG 27 (tkd tb p) (min 8 (txR txL tb n (p + j) - p)))), .null, x6, x7] [] 128 gm_RF im lm := by
  have h2000 := h.1
  intro w
  induction w with
  | zero =>
    intro j h1 h2
    have hb := M_byteAt h (i := p + j) (by omega) lm
    have ez : tbz tb n (p + j) = 0 := by unfold tbz; rw [if_neg (by omega)]
    rw [ez] at hb
    have hl := M_isLet (c := 0) (by decide) im lm
    have hf : txL 0 = false := by decide
    rw [hf] at hl
    have ea : nI p + nI j = nI (p + j) := nI_add p j
    rw [txR_ge (by omega), show p + j - p = j by omega, LX12_cut_85]
    simp (decide := true) only [QX12_cut, ea, hb, hl, gm_cont_i, b32_f, if_true]
  | succ w ih =>
    intro j h1 h2
    have hb := M_byteAt h (i := p + j) (by omega) lm
    have ea : nI p + nI j = nI (p + j) := nI_add p j
    by_cases hj : p + j < n
    · have ez : tbz tb n (p + j) = tb (p + j) := by unfold tbz; rw [if_pos hj]
      have hbb := (h.2.2 _ hj).1
      have hl := M_isLet (c := tb (p + j)) hbb im lm
      rw [ez] at hb
      cases hL : txL (tb (p + j)) with
      | true =>
        rw [hL] at hl
        have hr := txL_r hL
        rw [txR_go hj hL, show p + j + 1 = p + (j + 1) by omega, ← ih (j + 1) (by omega) (by omega), LX12_cut_85]
        by_cases h8 : j < 8
        · have c8 : ¬ (8 : Int32) ≤ nI j := nI_ge (b := 8) h8 (by decide)
          have e3 : pkG 27 (tkd tb p) (j + 1) = pkG 27 (tkd tb p) j * 27 + (tb (p + j) - 96) := rfl
          rw [show min 8 j = j by omega, show min 8 (j + 1) = j + 1 by omega, e3, ← i64_27 _ _ hr.1 hr.2]
          simp (decide := true) only [QX12_cut, ea, hb, hl, gm_cont_i, gm_cont_l, b32_t, if_true, if_false, c8, M_appends, nI_a1]
        · have c8 : (8 : Int32) ≤ nI j := nI_le (a := 8) (by omega) (by omega)
          rw [show min 8 j = 8 by omega, show min 8 (j + 1) = 8 by omega]
          simp (decide := true) only [QX12_cut, ea, hb, hl, gm_cont_i, b32_t, if_true, if_false, c8, nI_a1]
      | false =>
        rw [hL] at hl
        rw [txR_no hL, show p + j - p = j by omega, LX12_cut_85]
        simp (decide := true) only [QX12_cut, ea, hb, hl, gm_cont_i, b32_f, if_true]
    · have ez : tbz tb n (p + j) = 0 := by unfold tbz; rw [if_neg hj]
      rw [ez] at hb
      have hl := M_isLet (c := 0) (by decide) im lm
      have hf : txL 0 = false := by decide
      rw [hf] at hl
      rw [txR_ge (by omega), show p + j - p = j by omega, LX12_cut_85]
      simp (decide := true) only [QX12_cut, ea, hb, hl, gm_cont_i, b32_f, if_true]
theorem M_digs (h : mTX im tb n) {p : Nat} (hp : p ≤ n) (x2 : Int32) (x5 x6 x7 : Value) (lm : gm_L) : ∀ w j : Nat, n ≤ p + j + w → p + j ≤ n → (∀ x, x < j → txD (tb (p + x)) = true) → gm_den 174 208 [.ref 84, .int (nI p), .int x2, .int (nI j), .int (nI (pkG 10 (tkz tb p) (min 4 j))), x5, x6, x7] [] 128 gm_RF im lm = gm_den 174 250 [.ref 84, .int (nI p), .int x2, .int (nI (txR txD tb n (p + j) - p)), .int (nI (pkG 10 (tkz tb p) (min 4 (txR txD tb n (p + j) - p)))), x5, x6, x7] [] 128 gm_RF im lm := by
  have h2000 := h.1
  intro w
  induction w with
  | zero =>
    intro j h1 h2 h3
    have hb := M_byteAt h (i := p + j) (by omega) lm
    have ez : tbz tb n (p + j) = 0 := by unfold tbz; rw [if_neg (by omega)]
    rw [ez] at hb
    have hl := M_isDig (c := 0) (by decide) im lm
    have hf : txD 0 = false := by decide
    rw [hf] at hl
    have ea : nI p + nI j = nI (p + j) := nI_add p j
    rw [txR_ge (by omega), show p + j - p = j by omega, LX12_cut_208]
    simp (decide := true) only [QX12_cut, ea, hb, hl, gm_cont_i, b32_f, if_true]
  | succ w ih =>
    intro j h1 h2 h3
    have hb := M_byteAt h (i := p + j) (by omega) lm
    have ea : nI p + nI j = nI (p + j) := nI_add p j
    by_cases hj : p + j < n
    · have ez : tbz tb n (p + j) = tb (p + j) := by unfold tbz; rw [if_pos hj]
      have hbb := (h.2.2 _ hj).1
      have hl := M_isDig (c := tb (p + j)) hbb im lm
      rw [ez] at hb
      cases hD : txD (tb (p + j)) with
      | true =>
        rw [hD] at hl
        have hr := txD_r hD
        rw [txR_go hj hD, show p + j + 1 = p + (j + 1) by omega, ← ih (j + 1) (by omega) (by omega) (fun x hx => by
          by_cases e : x = j
          · rw [e]; exact hD
          · exact h3 x (by omega)), LX12_cut_208]
        by_cases h8 : j < 4
        · have c8 : ¬ (4 : Int32) ≤ nI j := nI_ge (b := 4) h8 (by decide)
          have e3 : pkG 10 (tkz tb p) (j + 1) = pkG 10 (tkz tb p) j * 10 + (tb (p + j) - 48) := rfl
          have e4 : (10 : Int32) * nI (pkG 10 (tkz tb p) j) + nI (tb (p + j)) - 48 = nI (pkG 10 (tkz tb p) j * 10 + (tb (p + j) - 48)) := by
            rw [show (10 : Int32) = nI 10 from rfl, show (48 : Int32) = nI 48 from rfl, nI_mul, nI_add, nI_sub (by omega), show 10 * pkG 10 (tkz tb p) j + tb (p + j) - 48 = pkG 10 (tkz tb p) j * 10 + (tb (p + j) - 48) by omega]
          rw [show min 4 j = j by omega, show min 4 (j + 1) = j + 1 by omega, e3, ← e4]
          simp (decide := true) only [QX12_cut, ea, hb, hl, gm_cont_i, b32_t, if_true, if_false, c8, nI_a1]
        · have c8 : (4 : Int32) ≤ nI j := nI_le (a := 4) (by omega) (by omega)
          rw [show min 4 j = 4 by omega, show min 4 (j + 1) = 4 by omega]
          simp (decide := true) only [QX12_cut, ea, hb, hl, gm_cont_i, b32_t, if_true, if_false, c8, nI_a1]
      | false =>
        rw [hD] at hl
        rw [txR_no hD, show p + j - p = j by omega, LX12_cut_208]
        simp (decide := true) only [QX12_cut, ea, hb, hl, gm_cont_i, b32_f, if_true]
    · have ez : tbz tb n (p + j) = 0 := by unfold tbz; rw [if_neg hj]
      rw [ez] at hb
      have hl := M_isDig (c := 0) (by decide) im lm
      have hf : txD 0 = false := by decide
      rw [hf] at hl
      rw [txR_ge (by omega), show p + j - p = j by omega, LX12_cut_208]
      simp (decide := true) only [QX12_cut, ea, hb, hl, gm_cont_i, b32_f, if_true]
end
/-- which key it is -/
def kSr (v : Nat) : Nat → Nat
  | 0 => 1
  | j + 1 => if pkL 27 (cwd (kprm j)) = v then 20 + j else kSr v j
theorem cwd_b27 : ∀ w : Fin 20, pkL 27 (cwd (kprm w.val)) < 2 ^ 63 := by decide
theorem kprm_lt : ∀ k : Fin 20, kprm k.val < 20 ∧ kinv (kprm k.val) = k.val := by decide
theorem kSr_no {v : Nat} : ∀ {j : Nat}, (∀ x, x < j → ¬ pkL 27 (cwd (kprm x)) = v) → kSr v j = 1 := by
  intro j
  induction j with
  | zero => intro _; rfl
  | succ j ih => intro h; simp only [kSr]; rw [if_neg (h j (by omega))]; exact ih (fun x hx => h x (by omega))
theorem kSr_at {v k : Nat} (hk : pkL 27 (cwd (kprm k)) = v) : ∀ {j : Nat}, k < j → j ≤ 20 → (∀ x, x < 20 → pkL 27 (cwd (kprm x)) = v → x = k) → kSr v j = 20 + k := by
  intro j
  induction j with
  | zero => intro h; exact absurd h (Nat.not_lt_zero _)
  | succ j ih =>
    intro h h2 hu
    simp only [kSr]
    by_cases e : j = k
    · rw [e, if_pos hk]
    · rw [if_neg (fun hc => e (hu j (by omega) hc))]
      exact ih (by omega) (by omega) hu
theorem kSr_wd {k : Nat} {d : Nat → Nat} (hd : ∀ x, x < k → 1 ≤ d x ∧ d x < 27) : kSr (pkG 27 d k) 20 = rK (tkWd (pkG 32 d k)) := by
  have hn := wSr_spec (pkG 32 d k) 20 0 rfl
  unfold tkWd
  rcases hn with ⟨a, b⟩ | ⟨a, b⟩
  · change wIx (pkG 32 d k) = 20 at a
    rw [if_pos a, kSr_no (fun x hx hc => by
      have hl := (kprm_lt ⟨x, hx⟩).1
      have := (wd_iff hl hd).mp hc.symm
      exact b _ (Nat.zero_le _) hl this.symm)]
    rfl
  · change wIx (pkG 32 d k) < 20 at a
    change pkL 32 (cwd (wIx (pkG 32 d k))) = _ at b
    rw [if_neg (by omega)]
    generalize hw : wIx (pkG 32 d k) = w at *
    have hkv : kinv w < 20 ∧ kprm (kinv w) = w := by
      have : ∀ w : Fin 20, kinv w.val < 20 ∧ kprm (kinv w.val) = w.val := by decide
      exact this ⟨w, a⟩
    have h27 : pkG 27 d k = pkL 27 (cwd w) := (wd_iff a hd).mpr b.symm
    rw [kSr_at (k := kinv w) (by rw [hkv.2]; exact h27.symm) hkv.1 (Nat.le_refl _) (fun x hx hc => by
      have hl := kprm_lt ⟨x, hx⟩
      have h32 := (wd_iff hl.1 hd).mp hc.symm
      have := cwd_D ⟨kprm x, hl.1⟩ ⟨w, a⟩ (by show pkL 32 (cwd (kprm x)) = pkL 32 (cwd w); rw [← h32, b])
      have e : kprm x = w := congrArg Fin.val this
      have h2 : kinv (kprm x) = x := hl.2
      rw [← h2, e])]
    unfold rK
    rw [if_neg (by omega), if_neg (by omega), if_neg (by omega), if_neg (by omega), if_neg (by omega), if_neg (by omega), if_neg (by omega), if_neg (by omega), if_neg (by omega), if_neg (by omega), if_neg (by omega), if_pos (by omega), Nat.add_sub_cancel_left]
theorem M_keys {lm : gm_L} (hw : ∀ k, k < 20 → lm 91 k = Int64.ofNat (pkL 27 (cwd (kprm k)))) {v : Nat} (hv : v < 2 ^ 63) (x1 x2 x3 : Int32) (im : gm_I) : ∀ f j : Nat, j + f = 20 → gm_den 174 146 [.ref 84, .int x1, .int x2, .int x3, .long (Int64.ofNat v), .null, .int (nI (kSr v j)), .int (nI j)] [] 128 gm_RF im lm = gm_den 174 179 [.ref 84, .int x1, .int x2, .int x3, .long (Int64.ofNat v), .null, .int (nI (kSr v 20)), .int 20] [] 128 gm_RF im lm := by
  intro f
  induction f with
  | zero =>
    intro j hj
    have : j = 20 := by omega
    subst this
    rw [LX12_cut_146]
    simp (decide := true) only [QX12_cut, if_true]
    rfl
  | succ f ih =>
    intro j hj
    have c1 : ¬ (20 : Int32) ≤ nI j := nI_ge (b := 20) (by omega) (by decide)
    have c2 : gm_in (nI j) 20 = true := gm_in_nI (by omega) (by decide)
    have c3 : (nI j).toNatClampNeg = j := nI_clamp (by omega)
    have e1 : kSr v (j + 1) = if pkL 27 (cwd (kprm j)) = v then 20 + j else kSr v j := rfl
    rw [← ih (j + 1) (by omega), e1, LX12_cut_146]
    by_cases hc : pkL 27 (cwd (kprm j)) = v
    · have e0 : lg_cmp (lm 91 j) (Int64.ofNat v) = 0 := by rw [lg_cmp_eq, hw j (by omega), hc]
      have e3 : (20 : Int32) + nI j = nI (20 + j) := by rw [show (20 : Int32) = nI 20 from rfl, nI_add]
      rw [if_pos hc]
      simp (decide := true) only [QX12_cut, c1, c2, c3, e0, e3, if_true, if_false, nI_a1, not_true_eq_false]
    · have e0 : ¬ lg_cmp (lm 91 j) (Int64.ofNat v) = 0 := by
        rw [lg_cmp_eq, hw j (by omega)]
        intro h
        exact hc (i64_inj (cwd_b27 ⟨j, by omega⟩) hv h)
      rw [if_neg hc]
      simp (decide := true) only [QX12_cut, c1, c2, c3, e0, if_true, if_false, nI_a1, not_false_eq_true]
