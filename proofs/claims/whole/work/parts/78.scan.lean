/-! the constructor of the scanner -/
def txt (c : Nat) : Int32 := (gm_tx.getD 0 []).getD c 0
theorem txt_ok : ∀ c : Fin 160, ((txt c.val &&& 255).toUInt32 % 65536).toInt32 = txt c.val ∧ narrow .char (.int (txt c.val)) = .int (txt c.val) := by decide +kernel
theorem J_latin (rf : gm_R) (im : gm_I) (lm : gm_L) : gm_den 286 0 [.ref 1010] [] 5 rf im lm = some (some (.int 1), 5, rf, im, lm) := by
  simp (decide := true) only [QJ0_isLatin1_aae02_5, if_true, if_false]
theorem J_chk {i : Nat} (hi : i < 160) (rf : gm_R) (im : gm_I) (lm : gm_L) : gm_den 287 0 [.int (nI i), .int (Int32.ofNat 160)] [] 5 rf im lm = some (none, 5, rf, im, lm) := by
  have h0 : ¬ nI i < 0 := (okI_tt (okI_n (n := 160) (by decide) hi)).1
  have h1 : nI i < Int32.ofNat 160 := (okI_tt (okI_n (n := 160) (by decide) hi)).2.2
  simp (decide := true) only [QJ0_checkIndex_df160_5, QJ3_checkIndex_8e157_5, h0, h1, if_true, if_false, gm_cont_i]
theorem J_char {c : Nat} (hc : c < 160) {im : gm_I} (h : im 1020 c = txt c) (rf : gm_R) (lm : gm_L) : gm_den 282 0 [.ref 1010, .int (nI c)] [] 5 rf im lm = some (some (.int (txt c)), 5, rf, im, lm) := by
  obtain ⟨e1, e2⟩ := txt_ok ⟨c, hc⟩
  have hin : gm_in (nI c) 160 = true ∧ (nI c).toNatClampNeg = c := ⟨gm_in_nI hc (by decide), nI_clamp (by omega)⟩
  simp only [] at e1 e2
  simp (decide := true) only [QJ0_charAt_5068e_5, QJ1_charAt_3b067_5, J_latin, gm_cont_i, gm_cont_v, if_false, J_chk hc, hin, if_true, h, e1, e2]
theorem J_len (rf : gm_R) (im : gm_I) (lm : gm_L) : gm_den 281 0 [.ref 1010] [] 4 rf im lm = some (some (.int 160), 4, rf, im, lm) := by
  simp (decide := true) only [QJ0_length_8abf5_4, QJ0_coder_7d493_4, if_true, if_false, gm_cont_i]
  rfl
def pkx : Nat → Nat → Int64 → Int64
  | 0, _, x => x
  | f + 1, c, x => if txt c = 32 then x else pkx f (c + 1) (x * 32 + (txt c).toInt64 - 97 + 1)
theorem pkx_all : ∀ w : Fin 20, pkx 8 (8 * w.val) 0 = Int64.ofNat (pkL 32 (cwd w.val)) := by decide +kernel
theorem scan_in {im : gm_I} (ht : ∀ c, c < 160 → im 1020 c = txt c) (rf : gm_R) (lm : gm_L) {w : Nat} (hw : w < 20) : ∀ (f c : Nat) (x : Int64), c + f = 8 * w + 8 → ∃ x4 : Int32, gm_den 62 57 [.ref 3, .int (nI w), .long x, .null, .int (nI c)] [] 5 rf im lm = gm_den 62 107 [.ref 3, .int (nI w), .long (pkx f c x), .null, .int x4] [] 5 rf im lm := by
  have e8 : (nI w + 1) * 8 = nI (8 * w + 8) := by rw [nI_a1, show (8 : Int32) = nI 8 from rfl, nI_mul, show (w + 1) * 8 = 8 * w + 8 by omega]
  intro f
  induction f with
  | zero =>
    intro c x hf
    refine ⟨nI c, ?_⟩
    have hle : nI (8 * w + 8) ≤ nI c := nI_le (by omega) (by omega)
    rw [LX6_init_57]
    simp only [QX6_init, e8, hle, if_true, pkx]
  | succ f ih =>
    intro c x hf
    have hlt : ¬ nI (8 * w + 8) ≤ nI c := nI_ge (by omega) (by omega)
    have hch := J_char (c := c) (by omega) (ht c (by omega)) rf lm
    by_cases h32 : txt c = 32
    · refine ⟨nI c, ?_⟩
      rw [LX6_init_57]
      simp (decide := true) only [QX6_init, e8, hlt, if_false, hch, gm_cont_i, h32, if_true, pkx]
    · obtain ⟨x4, h1⟩ := ih (c + 1) (x * 32 + (txt c).toInt64 - 97 + 1) (by omega)
      refine ⟨x4, ?_⟩
      have e8' : nI (w + 1) * 8 = nI (8 * w + 8) := by rw [← nI_a1]; exact e8
      simp only [pkx, h32, if_false]
      rw [← h1, LX6_init_57]
      simp (decide := true) only [QX6_init, e8, e8', hlt, if_false, hch, gm_cont_i, gm_cont_l, h32, if_true, nI_a1]
theorem scan_out {im : gm_I} (ht : ∀ c, c < 160 → im 1020 c = txt c) (rf : gm_R) (hrf : rf 3 0 = some 4) : ∀ (f w : Nat) (lm : gm_L) (x2 x3 x4 : Value), w + f = 20 → (∀ j, j < w → lm 4 j = Int64.ofNat (pkL 32 (cwd j))) → ∃ lm', gm_den 62 40 [.ref 3, .int (nI w), x2, x3, x4] [] 5 rf im lm = some (none, 5, rf, im, lm') ∧ (∀ j, j < 20 → lm' 4 j = Int64.ofNat (pkL 32 (cwd j))) ∧ Fr [4] lm lm' := by
  intro f
  induction f with
  | zero =>
    intro w lm x2 x3 x4 hw hl
    have : w = 20 := by omega
    subst this
    have hle : Int32.ofNat 20 ≤ nI 20 := by decide
    refine ⟨lm, ?_, hl, Fr.rf _ _⟩
    rw [LX6_init_40]
    simp only [QX6_init, hrf, hle, if_true]
  | succ f ih =>
    intro w lm x2 x3 x4 hw hl
    have hlt : ¬ Int32.ofNat 20 ≤ nI w := nI_ge (b := 20) (by omega) (by decide)
    have e8 : nI w * 8 = nI (8 * w) := by rw [show (8 : Int32) = nI 8 from rfl, nI_mul, Nat.mul_comm]
    obtain ⟨y4, h1⟩ := scan_in ht rf lm (w := w) (by omega) 8 (8 * w) 0 (by omega)
    have hp := pkx_all ⟨w, by omega⟩
    simp only [] at hp
    rw [hp] at h1
    have i20 : gm_in (nI w) 20 = true ∧ (nI w).toNatClampNeg = w := ⟨gm_in_nI (by omega) (by decide), nI_clamp (by omega)⟩
    obtain ⟨lm', g1, g2, g3⟩ := ih (w + 1) (gm_up lm 4 w (Int64.ofNat (pkL 32 (cwd w)))) (.long (Int64.ofNat (pkL 32 (cwd w)))) .null (.int y4) (by omega) (fun j hj => by
      by_cases e : j = w
      · subst e; rw [gu_eq]
      · rw [gu_nk e]; exact hl j (by omega))
    refine ⟨lm', ?_, g2, Fr.tr ((Fr.rf _ lm).up (by simp)) g3⟩
    rw [← g1, LX6_init_40]
    simp (decide := true) only [QX6_init, hrf, hlt, if_false, if_true, e8, gm_cat_i]
    refine Eq.trans h1 ?_
    simp (decide := true) only [QX6_init, hrf, if_true, i20, nI_a1]
