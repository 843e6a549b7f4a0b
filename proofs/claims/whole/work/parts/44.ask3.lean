/-! questions: say, old, count -/
def sayS (T : Nat → Nat) (due : Nat) : Nat → Nat → Int32
  | _, 0 => -2
  | g, w + 1 => if due ≤ T g then nI g else sayS T due (g + 1) w
section
variable {B : gm_I} {l nm nk nj ns : Nat}
theorem C_say_loop (hR : iRoll B l nm nk nj ns) (V : Nat → Int32) (a : Int32) (due : Nat) (hd : due < 2 ^ 31) (lm : gm_L) : ∀ (w g : Nat) (im : gm_I), g + w = 100 → Off B im → vEq (im 69) V → ∃ im', gm_den 131 42 [.ref 0, .int a, .int (nI due), .int (nI g)] [] 128 gm_RF im lm = some (some (.int (sayS (fun g => vTn B V (nI g) 255 nj) due g w)), 128, gm_RF, im', lm) ∧ Off B im' := by
  have hn8 := iR_nj hR
  intro w
  induction w with
  | zero =>
    intro g im hw ho hv
    have : g = 100 := by omega
    subst this
    refine ⟨im, ?_, ho⟩
    rw [LX11_say_42]
    simp (decide := true) only [QX11_say, if_true, sayS]
  | succ w ih =>
    intro g im hw ho hv
    have hlt : ¬ (99 : Int32) < nI g := nI_nlt (a := 99) (by omega) (by decide)
    obtain ⟨im1, h1, f1⟩ := C_totB hR ho hv (nI g) lm
    have hT := (vTn_ok B V (nI g) 255 nj).2
    have o1 := ho.tr (f1.off fr19)
    rw [LX11_say_42]
    simp only [sayS]
    by_cases hc : due ≤ vTn B V (nI g) 255 nj
    · have hx : ¬ nI (vTn B V (nI g) 255 nj) < nI due := nI_nlt (by omega) (by omega)
      refine ⟨im1, ?_, o1⟩
      simp only [QX11_say, hlt, if_false, h1, gm_cont_i, hx, hc, if_true]
    · have hx : nI (vTn B V (nI g) 255 nj) < nI due := nI_lt (by omega) hd
      obtain ⟨im2, h2, o2⟩ := ih (g + 1) im1 (by omega) o1 (by rw [f1 69 (by decide)]; exact hv)
      refine ⟨im2, ?_, o2⟩
      simp only [QX11_say, hlt, if_false, h1, gm_cont_i, hx, hc, if_true, nI_a1]
      exact h2
theorem M_say_loop (hR : iRoll B l nm nk nj ns) {a : Nat} (ha : a < nm) (V : Nat → Int32) (im0 : gm_I) (ho0 : Off B im0) (hV : vEq (mV im0 l a 0 0) V) (due : Nat) (hd : due < 2 ^ 31) (lm : gm_L) : ∀ (w g : Nat) (im : gm_I), g + w = 100 → mOff im0 im → ∃ im', gm_den 257 26 [.ref 84, .int (nI a), .int (nI due), .int (nI g)] [] 128 gm_RF im lm = some (some (.int (sayS (fun g => vTn B V (nI g) 255 nj) due g w)), 128, gm_RF, im', lm) ∧ Off B im' := by
  have hn8 := iR_nj hR
  intro w
  induction w with
  | zero =>
    intro g im hw hm
    have : g = 100 := by omega
    subst this
    refine ⟨im, ?_, ho0.tr hm.off⟩
    rw [LX12_say_26]
    simp (decide := true) only [QX12_say, if_true, sayS]
  | succ w ih =>
    intro g im hw hm
    have ho := ho0.tr hm.off
    have hlt : ¬ (99 : Int32) < nI g := nI_nlt (a := 99) (by omega) (by decide)
    obtain ⟨im1, h1, f1⟩ := M_sumBy hR ho a 255 0 0 (nI g) lm ha (by decide)
    rw [mV_off hm, vTj_eq hV, (vTn_ok B V (nI g) 255 nj).1] at h1
    rw [show (nI 255 : Int32) = 255 from rfl] at h1
    have hT := (vTn_ok B V (nI g) 255 nj).2
    rw [LX12_say_26]
    simp only [sayS]
    by_cases hc : due ≤ vTn B V (nI g) 255 nj
    · have hx : ¬ nI (vTn B V (nI g) 255 nj) < nI due := nI_nlt (by omega) (by omega)
      refine ⟨im1, ?_, ho.tr f1.off⟩
      simp only [QX12_say, hlt, if_false, h1, gm_cont_i, hx, hc, if_true]
    · have hx : nI (vTn B V (nI g) 255 nj) < nI due := nI_lt (by omega) hd
      obtain ⟨im2, h2, o2⟩ := ih (g + 1) im1 (by omega) (hm.tr f1)
      refine ⟨im2, ?_, o2⟩
      simp only [QX12_say, hlt, if_false, h1, gm_cont_i, hx, hc, if_true, nI_a1]
      exact h2
end
theorem Mg_99 (a : Int32) (im : gm_I) (lm : gm_L) : gm_den 200 0 [.int a, .int 0, .int 99] [] 128 gm_RF im lm = some (some (.int (b32 (okI 100 a))), 128, gm_RF, im, lm) := Mg_in (n := 100) (by decide) a im lm
theorem okI_f99 {a : Int32} (h : okI 100 a = false) : a < 0 ∨ (¬ a < 0 ∧ 99 < a) := by
  rcases okI_f h with h | ⟨h1, h2⟩
  · exact Or.inl h
  · exact Or.inr ⟨h1, Int32.lt_of_lt_of_le (show (99 : Int32) < nI 100 by decide) h2⟩
theorem A_say (a du : Int32) : Agr 131 257 [.ref 0, .int a, .int du, .null] [.ref 84, .int a, .int du, .null] := by
  refine agrQ ?_
  intro B lm l nm nk nj ns hI
  obtain ⟨hR, hr, -⟩ := hI
  have hm7 := iR_nm hR
  have n1 : Value.category .null = 1 := rfl
  cases hg : okI nm a with
  | false =>
    refine ⟨-1, ⟨B, lm, ?_, Off.rf B, LK.rf lm⟩, fun im lm1 ho hk => ⟨im, lm1, ?_, ho, hk⟩⟩
    · simp (decide := true) only [QX11_say, Cg_man hR (Off.rf B), hg, b32_f, gm_cont_i, if_true, if_false]
    · simp (decide := true) only [QX12_say, Mg_man hR ho, hg, b32_f, gm_cont_i, if_true, if_false]
  | true =>
    cases hg2 : okI 100 du with
    | false =>
      refine ⟨-1, ⟨B, lm, ?_, Off.rf B, LK.rf lm⟩, fun im lm1 ho hk => ⟨im, lm1, ?_, ho, hk⟩⟩
      · rcases okI_f99 hg2 with h | ⟨h, h2⟩
        · simp (decide := true) only [QX11_say, Cg_man hR (Off.rf B), hg, b32_t, gm_cont_i, if_true, if_false, h]
        · simp (decide := true) only [QX11_say, Cg_man hR (Off.rf B), hg, b32_t, gm_cont_i, if_true, if_false, h, Int32.not_le.mpr h2]
      · simp (decide := true) only [QX12_say, Mg_man hR ho, Mg_99, hg, hg2, b32_f, b32_t, gm_cont_i, if_true, if_false]
    | true =>
      obtain ⟨j, hj, rfl⟩ := okI_t (by omega) hg
      obtain ⟨d, hd, rfl⟩ := okI_t (by omega) hg2
      have hj7 : j < 7 := by omega
      let im1 := gm_up (cTake B j) 69 5 0
      have f1 : Fr [69] B im1 := (cTake_fr B j).up (by simp)
      have hv : vEq (im1 69) (upd (cV B j) 5 0) := by
        show vEq (gm_up (cTake B j) 69 5 0 69) _
        rw [gu_upd]
        exact (cTake_v (Off.rf B) j).up 5 0
      obtain ⟨im2, h2, o2⟩ := C_say_loop hR (upd (cV B j) 5 0) (nI j) d (by omega) lm 100 0 im1 (by omega) (f1.off (by decide)) hv
      have d1 : ¬ nI d < 0 := (okI_tt hg2).1
      have d2 : nI d ≤ 99 := nI_le (b := 99) (by omega) (by decide)
      refine ⟨sayS (fun g => vTn B (upd (cV B j) 5 0) (nI g) 255 nj) d 0 100, ⟨im2, lm, ?_, o2, LK.rf lm⟩, fun im lm1 ho hk => ?_⟩
      · rw [← h2]
        simp (decide := true) only [QX11_say, Cg_man hR (Off.rf B), hg, b32_t, gm_cont_i, gm_cont_v, if_true, if_false, d1, d2, C_take j B lm hj7, gm_cat_i, n1]
        rfl
      · obtain ⟨jm1, c1, p1, r1, -, -⟩ := M_copies hR ho lm1
        have hmv : vEq (mV jm1 l j 0 0) (upd (cV B j) 5 0) := by
          refine (mV_cV hR p1 hr r1 hj 0 0).tr ?_
          intro i _ _
          unfold upd
          by_cases h6 : i = 6
          · subst h6; simp [cV]
          · simp [h6]
        obtain ⟨jm2, h3, o3⟩ := M_say_loop hR hj (upd (cV B j) 5 0) jm1 p1 hmv d (by omega) lm1 100 0 jm1 (by omega) (mOff.rf jm1)
        refine ⟨jm2, lm1, ?_, o3, hk⟩
        rw [← h3]
        simp (decide := true) only [QX12_say, Mg_man hR ho, Mg_99, hg, hg2, b32_t, gm_cont_i, gm_cont_v, if_true, if_false, c1, gm_cat_i, n1]
        rfl
theorem A_old (a o : Int32) : Agr 136 263 [.ref 0, .int a, .int o, .null, .null] [.ref 84, .int a, .int o] := by
  refine agrQ ?_
  intro B lm l nm nk nj ns hI
  obtain ⟨hR, hr, -⟩ := hI
  have hm7 := iR_nm hR
  have n1 : Value.category .null = 1 := rfl
  cases hg : okI nm a with
  | false =>
    refine ⟨-10000, ⟨B, lm, ?_, Off.rf B, LK.rf lm⟩, fun im lm1 ho hk => ⟨im, lm1, ?_, ho, hk⟩⟩
    · simp (decide := true) only [QX11_old, Cg_man hR (Off.rf B), hg, b32_f, gm_cont_i, if_true, if_false]
    · simp (decide := true) only [QX12_old, Mg_man hR ho, hg, b32_f, gm_cont_i, if_true, if_false]
  | true =>
    cases hg2 : okI nm o with
    | false =>
      refine ⟨-10000, ⟨B, lm, ?_, Off.rf B, LK.rf lm⟩, fun im lm1 ho hk => ⟨im, lm1, ?_, ho, hk⟩⟩
      · simp (decide := true) only [QX11_old, Cg_man hR (Off.rf B), hg, hg2, b32_f, b32_t, gm_cont_i, if_true, if_false]
      · simp (decide := true) only [QX12_old, Mg_man hR ho, hg, hg2, b32_f, b32_t, gm_cont_i, if_true, if_false]
    | true =>
      by_cases hao : a = o
      · subst hao
        refine ⟨-10000, ⟨B, lm, ?_, Off.rf B, LK.rf lm⟩, fun im lm1 ho hk => ⟨im, lm1, ?_, ho, hk⟩⟩
        · simp (decide := true) only [QX11_old, Cg_man hR (Off.rf B), hg, b32_t, gm_cont_i, if_true, if_false]
        · simp (decide := true) only [QX12_old, Mg_man hR ho, hg, b32_t, gm_cont_i, if_true, if_false]
      · obtain ⟨j, hj, rfl⟩ := okI_t (by omega) hg
        obtain ⟨q, hq, rfl⟩ := okI_t (by omega) hg2
        have hj7 : j < 7 := by omega
        have hq7 : q < 7 := by omega
        have ht := top_neg (iR_nk hR) hr hj
        have hkp := kept_neg hr hq
        have htc := (rR_top hr hj).1
        have hkc := (rR_kept hr hq).1
        by_cases hsp : B 116 (21 + j) = -2
        · refine ⟨-10000, ⟨B, lm, ?_, Off.rf B, LK.rf lm⟩, fun im lm1 ho hk => ?_⟩
          · simp (decide := true) only [QX11_old, Cg_man hR (Off.rf B), hg, hg2, b32_t, gm_cont_i, if_true, if_false, hao, C_get q B lm hq7, gm_cat_i, n1, Cg_sil (Off.rf B) hj7, htc, hsp]
          · obtain ⟨jm1, c1, p1, r1, -, -⟩ := M_copies hR ho lm1
            refine ⟨jm1, lm1, ?_, p1, hk⟩
            simp (decide := true) only [QX12_old, Mg_man hR ho, hg, hg2, b32_t, gm_cont_i, gm_cont_v, if_true, if_false, hao, c1, ixr7 j hj7, r1 (21 + j) (show 21 + j < 80 by omega), ht.1.mpr hsp]
        · have hnn : ¬ B 116 (21 + j) < 0 := fun hh => hsp (ht.1.mp hh)
          by_cases hkk : B 116 (42 + q) = -2
          · refine ⟨-10000, ⟨B, lm, ?_, Off.rf B, LK.rf lm⟩, fun im lm1 ho hk => ?_⟩
            · simp (decide := true) only [QX11_old, Cg_man hR (Off.rf B), hg, hg2, b32_t, gm_cont_i, if_true, if_false, hao, C_get q B lm hq7, gm_cat_i, n1, Cg_sil (Off.rf B) hj7, htc, hsp, hkc, hkk]
            · obtain ⟨jm1, c1, p1, r1, -, -⟩ := M_copies hR ho lm1
              refine ⟨jm1, lm1, ?_, p1, hk⟩
              simp (decide := true) only [QX12_old, Mg_man hR ho, hg, hg2, b32_t, gm_cont_i, gm_cont_v, if_true, if_false, hao, c1, ixr7 j hj7, ixr7 q hq7, r1 (21 + j) (show 21 + j < 80 by omega), r1 (42 + q) (show 42 + q < 80 by omega), hnn, show ¬ 0 ≤ B 116 (42 + q) from fun hh => hkp.2.mp hh hkk]
          · obtain ⟨im1, h1, f1, hv1⟩ := C_totalOf hR (Off.rf B) hj7 0 lm
            have o1 : Off B im1 := f1.off (by decide)
            obtain ⟨im2, h2, f2⟩ := C_totB hR o1 hv1 (B 116 (42 + q)) lm
            refine ⟨nI (vTn B (upd (cV B j) 6 0) (B 116 (42 + q)) 255 nj) - nI (vS B nj (upd (cV B j) 6 0) 255), ⟨im2, lm, ?_, o1.tr (f2.off fr19), LK.rf lm⟩, fun im lm1 ho hk => ?_⟩
            · simp (decide := true) only [QX11_old, Cg_man hR (Off.rf B), hg, hg2, b32_t, gm_cont_i, if_true, if_false, hao, C_get q B lm hq7, gm_cat_i, n1, Cg_sil (Off.rf B) hj7, htc, hsp, hkc, hkk, h1, h2]
            · obtain ⟨jm1, c1, p1, r1, -, -⟩ := M_copies hR ho lm1
              obtain ⟨jm2, h3, n3⟩ := M_sumBy hR p1 j 255 (jm1 117 (28 + j)) 0 (B 116 (42 + q)) lm1 hj (by decide)
              rw [vTj_eq (mV_cV1 hR p1 hr r1 hj hsp 0), (vTn_ok B _ _ 255 nj).1] at h3
              rw [show (nI 255 : Int32) = 255 from rfl] at h3
              have p2 := p1.tr n3.off
              have r2 : ∀ k, k < 80 → jm2 117 k = B 116 k := fun k hk => by rw [n3.1 117 (by decide) (by decide) (by decide)]; exact r1 k hk
              obtain ⟨jm3, h4, n4⟩ := M_sumV hR p2 hr r2 hj hsp 0 lm1
              refine ⟨jm3, lm1, ?_, p2.tr n4.off, hk⟩
              simp (decide := true) only [QX12_old, Mg_man hR ho, hg, hg2, b32_t, gm_cont_i, gm_cont_v, if_true, if_false, hao, c1, ixr7 j hj7, ixr7 q hq7, r1 (21 + j) (show 21 + j < 80 by omega), r1 (42 + q) (show 42 + q < 80 by omega), hnn, hkp.2.mpr hkk, h3, h4]
section
variable {B im : gm_I} {l nm nk nj ns : Nat}
theorem C_fallenMotions_loop (hR : iRoll B l nm nk nj ns) (ho : Off B im) (lm : gm_L) : ∀ (w a : Nat), a + w = nk → gm_den 152 4 [.ref 0, .int (nI (gM (fun m => !decide (B 22 (70 + m) = -2)) a)), .int (nI a)] [] 128 gm_RF im lm = some (some (.int (nI (gM (fun m => !decide (B 22 (70 + m) = -2)) nk))), 128, gm_RF, im, lm) := by
  intro w
  have hb9 := iR_nk hR
  induction w with
  | zero =>
    intro a hw
    have : a = nk := by omega
    subst this
    rw [LX11_fallenMotions_4]
    simp only [QX11_fallenMotions, iR_113 hR ho, nI_le (Nat.le_refl a) (show a < 2 ^ 31 by omega), if_true]
  | succ w ih =>
    intro a hw
    have hlt : ¬ nI nk ≤ nI a := nI_ge (by omega) (by omega)
    have h1 := ih (a + 1) (by omega)
    have hg := C_fellTo a im lm (by omega)
    rw [ho.1 22 rfl] at hg
    rw [LX11_fallenMotions_4]
    by_cases hb : B 22 (70 + a) = -2
    · have e : gM (fun m => !decide (B 22 (70 + m) = -2)) (a + 1) = gM (fun m => !decide (B 22 (70 + m) = -2)) a := by simp [gM, hb]
      rw [e] at h1
      simp (decide := true) only [QX11_fallenMotions, iR_113 hR ho, hlt, if_false, if_true, hg, gm_cont_i, hb, nI_a1]
      exact h1
    · have e : gM (fun m => !decide (B 22 (70 + m) = -2)) (a + 1) = gM (fun m => !decide (B 22 (70 + m) = -2)) a + 2 ^ a := by simp [gM, hb]
      rw [e] at h1
      simp (decide := true) only [QX11_fallenMotions, iR_113 hR ho, hlt, if_false, if_true, hg, gm_cont_i, hb]
      rw [bs (show a < 8 by omega) (gM_lt _ a), nI_a1]
      exact h1
theorem C_fallenMotions (hR : iRoll B l nm nk nj ns) (ho : Off B im) (lm : gm_L) : gm_den 152 0 [.ref 0, .null, .null] [] 128 gm_RF im lm = some (some (.int (nI (gM (fun m => !decide (B 22 (70 + m) = -2)) nk))), 128, gm_RF, im, lm) := by
  have h1 := C_fallenMotions_loop hR ho lm nk 0 (by omega)
  have n1 : Value.category .null = 1 := rfl
  simp only [QX11_fallenMotions, gm_cat_i, n1]
  exact h1
theorem C_swornMen_loop (hR : iRoll B l nm nk nj ns) (ho : Off B im) (lm : gm_L) : ∀ (w a : Nat), a + w = nm → gm_den 153 4 [.ref 0, .int (nI (gM (fun a => !decide (B 22 (10 * a + 1) = -2)) a)), .int (nI a)] [] 128 gm_RF im lm = some (some (.int (nI (gM (fun a => !decide (B 22 (10 * a + 1) = -2)) nm))), 128, gm_RF, im, lm) := by
  intro w
  have hb9 := iR_nm hR
  induction w with
  | zero =>
    intro a hw
    have : a = nm := by omega
    subst this
    rw [LX11_swornMen_4]
    simp only [QX11_swornMen, iR_112 hR ho, nI_le (Nat.le_refl a) (show a < 2 ^ 31 by omega), if_true]
  | succ w ih =>
    intro a hw
    have hlt : ¬ nI nm ≤ nI a := nI_ge (by omega) (by omega)
    have h1 := ih (a + 1) (by omega)
    have hg := C_isSworn a im lm (by omega)
    rw [ho.1 22 rfl] at hg
    rw [LX11_swornMen_4]
    by_cases hb : B 22 (10 * a + 1) = -2
    · have e : gM (fun a => !decide (B 22 (10 * a + 1) = -2)) (a + 1) = gM (fun a => !decide (B 22 (10 * a + 1) = -2)) a := by simp [gM, hb]
      rw [e] at h1
      simp (decide := true) only [QX11_swornMen, iR_112 hR ho, hlt, if_false, if_true, hg, gm_cont_i, hb, nI_a1]
      exact h1
    · have e : gM (fun a => !decide (B 22 (10 * a + 1) = -2)) (a + 1) = gM (fun a => !decide (B 22 (10 * a + 1) = -2)) a + 2 ^ a := by simp [gM, hb]
      rw [e] at h1
      simp (decide := true) only [QX11_swornMen, iR_112 hR ho, hlt, if_false, if_true, hg, gm_cont_i, hb]
      rw [bs (show a < 8 by omega) (gM_lt _ a), nI_a1]
      exact h1
theorem C_swornMen (hR : iRoll B l nm nk nj ns) (ho : Off B im) (lm : gm_L) : gm_den 153 0 [.ref 0, .null, .null] [] 128 gm_RF im lm = some (some (.int (nI (gM (fun a => !decide (B 22 (10 * a + 1) = -2)) nm))), 128, gm_RF, im, lm) := by
  have h1 := C_swornMen_loop hR ho lm nm 0 (by omega)
  have n1 : Value.category .null = 1 := rfl
  simp only [QX11_swornMen, gm_cat_i, n1]
  exact h1
theorem C_menWithSpeech_loop (hR : iRoll B l nm nk nj ns) (ho : Off B im) (lm : gm_L) : ∀ (w a : Nat), a + w = nm → gm_den 154 4 [.ref 0, .int (nI (gM (fun a => !decide (B 22 (10 * a + 6) = -2)) a)), .int (nI a)] [] 128 gm_RF im lm = some (some (.int (nI (gM (fun a => !decide (B 22 (10 * a + 6) = -2)) nm))), 128, gm_RF, im, lm) := by
  intro w
  have hb9 := iR_nm hR
  induction w with
  | zero =>
    intro a hw
    have : a = nm := by omega
    subst this
    rw [LX11_menWithSpeech_4]
    simp only [QX11_menWithSpeech, iR_112 hR ho, nI_le (Nat.le_refl a) (show a < 2 ^ 31 by omega), if_true]
  | succ w ih =>
    intro a hw
    have hlt : ¬ nI nm ≤ nI a := nI_ge (by omega) (by omega)
    have h1 := ih (a + 1) (by omega)
    have hg := C_getN a 6 (by omega) (by decide) im lm
    rw [ho.1 22 rfl, show (nI 6 : Int32) = 6 from rfl] at hg
    rw [LX11_menWithSpeech_4]
    by_cases hb : B 22 (10 * a + 6) = -2
    · have e : gM (fun a => !decide (B 22 (10 * a + 6) = -2)) (a + 1) = gM (fun a => !decide (B 22 (10 * a + 6) = -2)) a := by simp [gM, hb]
      rw [e] at h1
      simp (decide := true) only [QX11_menWithSpeech, iR_112 hR ho, hlt, if_false, if_true, hg, gm_cont_i, hb, nI_a1]
      exact h1
    · have e : gM (fun a => !decide (B 22 (10 * a + 6) = -2)) (a + 1) = gM (fun a => !decide (B 22 (10 * a + 6) = -2)) a + 2 ^ a := by simp [gM, hb]
      rw [e] at h1
      simp (decide := true) only [QX11_menWithSpeech, iR_112 hR ho, hlt, if_false, if_true, hg, gm_cont_i, hb]
      rw [bs (show a < 8 by omega) (gM_lt _ a), nI_a1]
      exact h1
theorem C_menWithSpeech (hR : iRoll B l nm nk nj ns) (ho : Off B im) (lm : gm_L) : gm_den 154 0 [.ref 0, .null, .null] [] 128 gm_RF im lm = some (some (.int (nI (gM (fun a => !decide (B 22 (10 * a + 6) = -2)) nm))), 128, gm_RF, im, lm) := by
  have h1 := C_menWithSpeech_loop hR ho lm nm 0 (by omega)
  have n1 : Value.category .null = 1 := rfl
  simp only [QX11_menWithSpeech, gm_cat_i, n1]
  exact h1
def iS (F : Nat → Int32) : Nat → Int32
  | 0 => 0
  | a + 1 => iS F a + F a
theorem iS_ext {F G : Nat → Int32} {n : Nat} (h : ∀ a, a < n → F a = G a) : iS F n = iS G n := by
  induction n with
  | zero => rfl
  | succ n ih =>
    have h1 := ih (fun a ha => h a (by omega))
    have h2 := h n (by omega)
    simp only [iS, h1, h2]
theorem C_overAll_loop (hR : iRoll B l nm nk nj ns) (ho : Off B im) (f : Nat) (hf : f < 10) (lm : gm_L) : ∀ (w a : Nat), a + w = nm → gm_den 155 4 [.ref 0, .int (nI f), .int (iS (fun a => B 22 (10 * a + f)) a), .int (nI a)] [] 128 gm_RF im lm = some (some (.int (iS (fun a => B 22 (10 * a + f)) nm)), 128, gm_RF, im, lm) := by
  intro w
  have hb9 := iR_nm hR
  induction w with
  | zero =>
    intro a hw
    have : a = nm := by omega
    subst this
    rw [LX11_overAll_4]
    simp only [QX11_overAll, iR_112 hR ho, nI_le (Nat.le_refl a) (show a < 2 ^ 31 by omega), if_true]
  | succ w ih =>
    intro a hw
    have hlt : ¬ nI nm ≤ nI a := nI_ge (by omega) (by omega)
    have h1 := ih (a + 1) (by omega)
    have hg := C_getN a f (by omega) hf im lm
    rw [ho.1 22 rfl] at hg
    rw [LX11_overAll_4]
    simp only [QX11_overAll, iR_112 hR ho, hlt, if_false, hg, gm_cont_i, nI_a1]
    exact h1
theorem C_overAll (hR : iRoll B l nm nk nj ns) (ho : Off B im) (f : Nat) (hf : f < 10) (lm : gm_L) : gm_den 155 0 [.ref 0, .int (nI f), .null, .null] [] 128 gm_RF im lm = some (some (.int (iS (fun a => B 22 (10 * a + f)) nm)), 128, gm_RF, im, lm) := by
  have h1 := C_overAll_loop hR ho f hf lm nm 0 (by omega)
  have n1 : Value.category .null = 1 := rfl
  simp only [QX11_overAll, gm_cat_i, n1]
  exact h1
theorem M_cnt126 (hR : iRoll B l nm nk nj ns) (ho : Off B im) (wh : Int32) (lm : gm_L) : ∀ (w a : Nat), a + w = nk → gm_den 273 126 [.ref 84, .int wh, .int (nI (gM (fun m => decide (0 ≤ B 116 (70 + m))) a)), .int (nI a)] [] 128 gm_RF im lm = some (some (.int (nI (gM (fun m => decide (0 ≤ B 116 (70 + m))) nk))), 128, gm_RF, im, lm) := by
  intro w
  have hb9 := iR_nk hR
  have hl2 := iR_l hR
  induction w with
  | zero =>
    intro a hw
    have : a = nk := by omega
    subst this
    rw [LX12_count_126]
    simp only [QX12_count, iR_18 hR ho, i2 l hl2, iR_99 hR ho, nI_le (Nat.le_refl a) (show a < 2 ^ 31 by omega), if_true]
  | succ w ih =>
    intro a hw
    have hlt : ¬ nI nk ≤ nI a := nI_ge (by omega) (by omega)
    have h1 := ih (a + 1) (by omega)
    have h116 : im 116 (70 + a) = B 116 (70 + a) := by rw [ho.1 116 rfl]
    rw [LX12_count_126]
    by_cases hb : B 116 (70 + a) < 0
    · have hb2 := Int32.not_le.mpr hb
      have e : gM (fun m => decide (0 ≤ B 116 (70 + m))) (a + 1) = gM (fun m => decide (0 ≤ B 116 (70 + m))) a := by simp [gM, hb2]
      rw [e] at h1
      simp (decide := true) only [QX12_count, iR_18 hR ho, i2 l hl2, iR_99 hR ho, hlt, if_false, if_true, ixm a (show a < 5 by omega), h116, hb, nI_a1]
      exact h1
    · have hb2 := Int32.not_lt.mp hb
      have e : gM (fun m => decide (0 ≤ B 116 (70 + m))) (a + 1) = gM (fun m => decide (0 ≤ B 116 (70 + m))) a + 2 ^ a := by simp [gM, hb2]
      rw [e] at h1
      simp (decide := true) only [QX12_count, iR_18 hR ho, i2 l hl2, iR_99 hR ho, hlt, if_false, if_true, ixm a (show a < 5 by omega), h116, hb]
      rw [bs (show a < 8 by omega) (gM_lt _ a), nI_a1]
      exact h1
theorem M_cnt167 (hR : iRoll B l nm nk nj ns) (ho : Off B im) (wh : Int32) (c : Nat) (hc : (wh = 6 ∧ c = 7) ∨ (¬ wh = 6 ∧ c = 42)) (lm : gm_L) : ∀ (w a : Nat), a + w = nm → gm_den 273 167 [.ref 84, .int wh, .int (nI (gM (fun a => decide (0 ≤ B 116 (c + a))) a)), .int (nI a)] [] 128 gm_RF im lm = some (some (.int (nI (gM (fun a => decide (0 ≤ B 116 (c + a))) nm))), 128, gm_RF, im, lm) := by
  intro w
  have hb9 := iR_nm hR
  have hl2 := iR_l hR
  induction w with
  | zero =>
    intro a hw
    have : a = nm := by omega
    subst this
    rw [LX12_count_167]
    simp only [QX12_count, iR_18 hR ho, i2 l hl2, iR_94 hR ho, nI_le (Nat.le_refl a) (show a < 2 ^ 31 by omega), if_true]
  | succ w ih =>
    intro a hw
    have hlt : ¬ nI nm ≤ nI a := nI_ge (by omega) (by omega)
    have h1 := ih (a + 1) (by omega)
    have h116 : im 116 (c + a) = B 116 (c + a) := by rw [ho.1 116 rfl]
    rw [LX12_count_167]
    by_cases hb : B 116 (c + a) < 0
    · have hb2 := Int32.not_le.mpr hb
      have e : gM (fun m => decide (0 ≤ B 116 (c + m))) (a + 1) = gM (fun m => decide (0 ≤ B 116 (c + m))) a := by simp [gM, hb2]
      rw [e] at h1
      rcases hc with ⟨e1, rfl⟩ | ⟨e1, rfl⟩ <;> simp (decide := true) only [QX12_count, iR_18 hR ho, i2 l hl2, iR_94 hR ho, hlt, if_false, if_true, e1, ixr7 a (show a < 7 by omega), h116, hb, nI_a1] <;> first | exact h1 | (rw [e1] at h1; exact h1)
    · have hb2 := Int32.not_lt.mp hb
      have e : gM (fun m => decide (0 ≤ B 116 (c + m))) (a + 1) = gM (fun m => decide (0 ≤ B 116 (c + m))) a + 2 ^ a := by simp [gM, hb2]
      rw [e] at h1
      rcases hc with ⟨e1, rfl⟩ | ⟨e1, rfl⟩ <;> simp (decide := true) only [QX12_count, iR_18 hR ho, i2 l hl2, iR_94 hR ho, hlt, if_false, if_true, e1, ixr7 a (show a < 7 by omega), h116, hb] <;> rw [bs (show a < 8 by omega) (gM_lt _ a), nI_a1] <;> first | exact h1 | (rw [e1] at h1; exact h1)
theorem M_cnt287 (hR : iRoll B l nm nk nj ns) (ho : Off B im) (wh : Int32) (c : Nat) (hc : (wh = 12 ∧ c = 14) ∨ (¬ wh = 12 ∧ c = 63)) (lm : gm_L) : ∀ (w a : Nat), a + w = nm → gm_den 273 287 [.ref 84, .int wh, .int (iS (fun a => B 116 (c + a)) a), .int (nI a)] [] 128 gm_RF im lm = some (some (.int (iS (fun a => B 116 (c + a)) nm)), 128, gm_RF, im, lm) := by
  intro w
  have hb9 := iR_nm hR
  have hl2 := iR_l hR
  induction w with
  | zero =>
    intro a hw
    have : a = nm := by omega
    subst this
    rw [LX12_count_287]
    simp only [QX12_count, iR_18 hR ho, i2 l hl2, iR_94 hR ho, nI_le (Nat.le_refl a) (show a < 2 ^ 31 by omega), if_true]
  | succ w ih =>
    intro a hw
    have hlt : ¬ nI nm ≤ nI a := nI_ge (by omega) (by omega)
    have h1 := ih (a + 1) (by omega)
    have h116 : im 116 (c + a) = B 116 (c + a) := by rw [ho.1 116 rfl]
    rw [LX12_count_287]
    rcases hc with ⟨e1, rfl⟩ | ⟨e1, rfl⟩ <;> simp (decide := true) only [QX12_count, iR_18 hR ho, i2 l hl2, iR_94 hR ho, hlt, if_false, if_true, e1, ixr7 a (show a < 7 by omega), h116, nI_a1] <;> first | exact h1 | (rw [e1] at h1; exact h1)
end
