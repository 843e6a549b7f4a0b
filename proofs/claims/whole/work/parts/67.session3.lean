def rw22 (B : gm_I) (c : Nat → Int32) : gm_I := fun q => if q = 22 then c else B q
def hv (B : gm_I) (c : Nat → Int32) (z : Int32) (a : Nat) : Nat → Int32 := upd (cV (rw22 B c) a) 6 (b32 (sSl B z (c 75) a))
def spc (c : Nat → Int32) (m : Nat) (a : Nat) : Bool := decide (c (10 * a + 3) = nI m)
def hrw (B : gm_I) (nj nm : Nat) (c : Nat → Int32) (z : Int32) (m : Nat) (to : Int32) : Nat → Int32 := upd (upd (heaF c (spc c m) (fun a => vPy B nj (hv B c z a) (c (10 * a + 2))) (fun a => vGd B (hv B c z a)) (fun a => b32 (sSl B z (c 75) a)) nm) (70 + m) to) 75 (c 75 + 1)
section
variable {B : gm_I} {l nm nk nj ns : Nat}
theorem vFall_to (f : Nat → Bool) (v : Nat → Nat → Int32) : eO (vFall B nj f nm v) = -2 ∨ ∃ s, s < 3 ∧ eO (vFall B nj f nm v) = nI s := by
  cases h : vFall B nj f nm v with
  | none => exact Or.inl rfl
  | some s => exact Or.inr ⟨s, gw_lt h, rfl⟩
theorem sit_any (hR : iRoll B l nm nk nj ns) (h0 : nj ≠ 0) {m : Nat} (hm : m < nk) {im : gm_I} (ho : Off B im) {c : Nat → Int32} (hr : rRel c (im 117) nm nk ns) (lm : gm_L) : ∃ im', gm_den 226 0 [.ref 84, .int (nI m), .null, .null, .null, .null, .null, .null] [] 128 gm_RF im lm = some (some (.int (eO (vFall B nj (spc c m) nm (hv B c (im 84 51))))), 128, gm_RF, im', lm) ∧ Off B im' ∧ im' 84 51 = im 84 51 ∧ rRel (hrw B nj nm c (im 84 51) m (eO (vFall B nj (spc c m) nm (hv B c (im 84 51))))) (im' 117) nm nk ns := by
  have hm7 := iR_nm hR
  have hk5 := iR_nk hR
  have hok : cLawsOk B := iR_cl hR
  have hf : ∀ a, a < nm → mSpk im (nI m) a = spc c m a := fun a ha => by
    unfold mSpk spc; rw [(rR_top hr ha).1]
  have hsp : ∀ a, a < nm → spc c m a = true → ¬ im 117 (21 + a) = -2 := fun a ha h e => by
    unfold spc at h
    rw [(rR_top hr ha).1, e] at h
    exact eO_256 (show m < 256 by omega) (of_decide_eq_true h).symm
  obtain ⟨im', h1, h2, h3, h4⟩ := M_sits hR h0 (show m < 5 by omega) ho (rRel_ok (iR_ns hR) hr) lm
  have hbit : ∀ a, a < nm → spc c m a = true → b32 ((gM (fun b => mSpk im (nI m) b && sSl B (im 84 51) (im 117 75) b) nm).testBit a) = b32 (sSl B (im 84 51) (c 75) a) := fun a ha h => by
    rw [gM_bit, decide_eq_true ha, hf a ha, h, rR_day hr]; rfl
  generalize gM (fun b => mSpk im (nI m) b && sSl B (im 84 51) (im 117 75) b) nm = SL at *
  have hv1 : ∀ a, a < nm → spc c m a = true → vEq (rV B l (im 117) a (b32 (SL.testBit a))) (hv B c (im 84 51) a) := fun a ha h => by
    rw [hbit a ha h]
    exact rV_cV hR hr ha (hsp a ha h) _
  have hfall : mFall B im l nm nj (nI m) SL = vFall B nj (spc c m) nm (hv B c (im 84 51)) := by
    refine mFall_v SL hf (fun a ha h => ?_)
    rw [mV_rV ho]; exact hv1 a ha h
  rw [hfall] at h1 h4
  refine ⟨im', h1, h2, h3, ?_⟩
  have hrow := sitF_ext (R := im 117) (f := mSpk im (nI m)) (f' := spc c m) (P := fun a => vPy B nj (rV B l (im 117) a (b32 (SL.testBit a))) (im 117 (14 + a))) (P' := fun a => vPy B nj (hv B c (im 84 51) a) (c (10 * a + 2))) (G := fun a => vGd B (rV B l (im 117) a (b32 (SL.testBit a)))) (G' := fun a => vGd B (hv B c (im 84 51) a)) (S := fun a => b32 (SL.testBit a)) (S' := fun a => b32 (sSl B (im 84 51) (c 75) a)) (n := nm) (fun a ha => ⟨hf a ha, fun h => ⟨by
      show vPy B nj _ _ = vPy B nj _ _
      rw [vPy_eq (hv1 a ha h), rR_coin hr ha], vGd_eq (hv1 a ha h), hbit a ha h⟩⟩)
  rw [hrow] at h4
  rw [h4]
  unfold hrw
  refine sat_rel hm7 hk5 hr hm (fun a ha => ?_) (fun a ha h => ?_) (vFall_to _ _)
  · unfold spc; rw [(rR_top hr ha).1]
  · have := vGd_rng (B := rw22 B c) hr ha (fun k hk => rfl) (b32 (sSl B (im 84 51) (c 75) a))
    obtain ⟨g, hg, e⟩ := this
    refine ⟨g, hg, ?_⟩
    rw [← e]
    exact (vGd_rows hok (fun q hq => by show (if q = 22 then c else B q) = B q; rw [if_neg (by omega)]) _).symm
end
theorem A_session (a : Int32) : Agr 122 238 [.ref 0, .int a, .null, .null, .null] [.ref 84, .int a, .null] := by
  intro B lm l nm nk nj ns hI
  have hI0 := hI
  obtain ⟨hR, hr, ⟨nx, sz, hx, hz, e2, e3, e54, hp⟩, -⟩ := hI
  have hm7 := iR_nm hR
  have hk5 := iR_nk hR
  have hl2 := iR_l hR
  have hn8 := iR_nj hR
  have n1 : Value.category .null = 1 := rfl
  have ho := Off.rf B
  cases hg : okI nk a with
  | false =>
    refine agr_no hI0 (-1) ?_ ⟨B, ?_, ho⟩
    · simp (decide := true) only [QX11_session, Cg_mot hR ho, hg, b32_f, gm_cont_i, if_true, if_false]
    · simp (decide := true) only [QX12_session, Mg_mot hR ho, hg, b32_f, gm_cont_i, if_true, if_false]
  | true =>
    obtain ⟨m, hm, rfl⟩ := okI_t (by omega) hg
    have hm5 : m < 5 := by omega
    obtain ⟨f1, f2⟩ := rR_fell hr hm
    have hneg := neg_iff (ns := 3) (by decide) f2
    obtain ⟨jm, c1, p1, r1, z1, -⟩ := M_copies hR ho lm
    have hsp := M_speakers hR p1 (nI m) lm
    have hse : mSp jm nm (nI m) = gM (cSpk B (nI m)) nm := gM_ext (fun a ha => spk_eq hm7 hr r1 (nI m) a ha)
    rw [hse] at hsp
    have j70 : jm 117 (70 + m) = B 116 (70 + m) := r1 _ (by omega)
    by_cases hfe : B 116 (70 + m) = -2
    · have hnn : ¬ 0 ≤ B 116 (70 + m) := fun h => hneg.2.mp h hfe
      have hlt : B 116 (70 + m) < 0 := hneg.1.mpr hfe
      by_cases hs0 : gM (cSpk B (nI m)) nm = 0
      · rw [hs0] at hsp
        have hco := C_speakersOn hR ho (nI m) lm
        rw [hs0] at hco
        refine agr_no hI0 (-2) ?_ ⟨jm, ?_, p1⟩
        · simp (decide := true) only [QX11_session, Cg_mot hR ho, hg, b32_t, gm_cont_i, if_true, if_false, C_fellTo m B lm hm5, f1, hfe, hco, nI_0]
        · simp (decide := true) only [QX12_session, Mg_mot hR ho, hg, b32_t, gm_cont_i, gm_cont_v, if_true, if_false, c1, ix70r m hm5, j70, hnn, hlt, hsp, nI_0]
      · have hlt2 : gM (cSpk B (nI m)) nm < 256 := by
          have := gM_lt (cSpk B (nI m)) nm
          have h2 : 2 ^ nm ≤ 2 ^ 7 := Nat.pow_le_pow_right (by decide) hm7
          omega
        have hs0' : ¬ nI (gM (cSpk B (nI m)) nm) = 0 := nI_ne0 (by omega) (by omega)
        have hco := C_speakersOn hR ho (nI m) lm
        by_cases hj0 : nj = 0
        · have hz4 : B 11 4 = 0 := by rw [iR_114 hR ho, hj0]; rfl
          have hz1 : jm 101 l = 0 := by rw [iR_101 hR p1, hj0]; rfl
          refine agr_no hI0 (-2) ?_ ⟨jm, ?_, p1⟩
          · simp (decide := true) only [QX11_session, Cg_mot hR ho, hg, b32_t, gm_cont_i, if_true, if_false, C_fellTo m B lm hm5, f1, hfe, hco, hs0', hz4]
          · simp (decide := true) only [QX12_session, Mg_mot hR ho, hg, b32_t, gm_cont_i, gm_cont_v, if_true, if_false, c1, ix70r m hm5, j70, hnn, hlt, hsp, hs0', iR_18 hR p1, i2 l hl2, hz1]
        · have hz4 : ¬ nI nj = 0 := nI_ne0 (by omega) (by omega)
          -- the class
          obtain ⟨cm0, row0⟩ := cMod_keep (B := B) (sz := sz) hx
          have hk := C_keep hx hz e2 e3 lm
          let K := cKp B nx sz
          have hRK : iRoll K l nm nk nj ns := cm0.roll hR hx
          have kc : K 22 = B 22 := funext row0
          have kr : ∀ q, gs q = false → q ≠ 22 → q ≠ 23 → q ≠ 25 + nx → K q = B q := cm0.1
          have k11 : K 11 = B 11 := kr 11 rfl (by decide) (by decide) (by omega)
          have k12 : K 12 = B 12 := kr 12 rfl (by decide) (by decide) (by omega)
          have hspk : cSpk K (nI m) = cSpk B (nI m) := by funext b; unfold cSpk; rw [kc]
          have hpk : ∀ a, a < nm → cSpk K (nI m) a = true → pOk (heV K a) := fun a ha _ => by
            refine pOk_eq ?_ (cV_pOk hR hr ha)
            unfold heV
            rw [upd_ne _ _ (by decide), cV_rows k11 k12 (fun k _ => by rw [kc]) (by rw [kc])]
          obtain ⟨im1, q1, q2, q3⟩ := C_sess_loop hRK hj0 hm5 hpk lm nm 0 K (by omega) (Fr.rf _ _) rfl
          have cm1 : cMod B nx sz im1 := by
            obtain ⟨b1, b2, b3, b4, b5, b6⟩ := cm0
            refine ⟨fun q h1 h2 h3 h4 => ?_, fun k hk => ?_, ?_, ?_, ?_, fun j hj => ?_⟩
            · rw [q2 q (by
                intro hq
                simp only [List.mem_cons, List.mem_nil_iff, or_false] at hq
                rcases hq with rfl | rfl | rfl | rfl
                · exact absurd h1 (by decide)
                · exact h2 rfl
                · exact absurd h1 (by decide)
                · exact absurd h1 (by decide))]; exact b1 q h1 h2 h3 h4
            · rw [q2 84 (by decide)]; exact b2 k hk
            · rw [q2 23 (by decide)]; exact b3
            · rw [q2 23 (by decide)]; exact b4
            · rw [q2 23 (by decide)]; exact b5
            · rw [q2 (25 + nx) (by simp; omega)]; exact b6 j hj
          have hR1 := cm1.roll hR hx
          have e116 : im1 116 = B 116 := cm1.1 116 rfl (by decide) (by decide) (by omega)
          obtain ⟨jm1, d1, o1, t1, w1, -⟩ := M_copies hR1 (Off.rf im1) lm
          rw [e116] at t1
          have i11 : im1 11 = K 11 := q2 11 (by decide)
          have i12 : im1 12 = K 12 := q2 12 (by decide)
          have iq : ∀ q, 14 ≤ q ∧ q ≤ 18 → im1 q = K q := fun q hq => q2 q (by simp; omega)
          have hrK : rRel (K 22) (jm1 117) nm nk ns := rRel_eq hm7 hk5 hr (fun j _ => by rw [kc]) t1
          obtain ⟨jm2, u1, u2, u3, u4⟩ := sit_any hR1 hj0 hm o1 hrK lm
          have hhv : hv im1 (K 22) (jm1 84 51) = heV K := by
            funext b
            unfold hv heV
            rw [w1, i11, sSl_rows i12, cV_rows (im := rw22 im1 (K 22)) (B := K) (a := b) (by exact i11) (by exact i12) (fun k _ => rfl) rfl]
          have hsc : spc (K 22) m = cSpk K (nI m) := rfl
          have hto : vFall im1 nj (spc (K 22) m) nm (hv im1 (K 22) (jm1 84 51)) = vFall K nj (cSpk K (nI m)) nm (heV K) := by
            rw [hhv, hsc]; exact vSu_rows (iR_cl hRK) iq _ _
          rw [hto] at u1 u4
          have hrow : hrw im1 nj nm (K 22) (jm1 84 51) m (eO (vFall K nj (cSpk K (nI m)) nm (heV K))) = im1 22 := by
            rw [q3]
            unfold hrw heC
            rw [hhv, hsc]
            have eP : (fun a => vPy im1 nj (heV K a) (K 22 (10 * a + 2))) = fun a => vPy K nj (heV K a) (K 22 (10 * a + 2)) := funext fun b => vPy_rows (iR_cl hRK) iq nj _ _
            have eG : (fun a => vGd im1 (heV K a)) = fun a => vGd K (heV K a) := funext fun b => vGd_rows (iR_cl hRK) iq _
            have eS : (fun a => b32 (sSl im1 (jm1 84 51) (K 22 75) a)) = fun a => b32 (sSl K (K 11 1) (K 22 75) a) := funext fun b => by rw [w1, i11, sSl_rows i12]
            rw [eP, eG, eS]
          rw [hrow] at u4
          obtain ⟨im2, v1, v2, v3⟩ := push_mod hI0 hx hz e54 hp cm1 u2 u4 (LK.rf lm)
          refine ⟨eO (vFall K nj (cSpk K (nI m)) nm (heV K)), im1, lm, im2, lm, l, nm, nk, nj, ns, ?_, ?_, v2⟩
          · rw [← q1]
            simp (decide := true) only [QX11_session, Cg_mot hR ho, hg, b32_t, gm_cont_i, gm_cont_v, if_true, if_false, C_fellTo m B lm hm5, f1, hfe, hco, hs0', iR_114 hR ho, hz4, hk, n1]
            rfl
          · have hsp1 := M_speakers hR1 o1 (nI m) lm
            have hse1 : mSp jm1 nm (nI m) = gM (cSpk B (nI m)) nm := gM_ext (fun a ha => by
              show decide (jm1 117 (21 + a) = nI m) = cSpk B (nI m) a
              unfold cSpk
              rw [t1 _ (by omega), (rR_top hr ha).1])
            rw [hse1] at hsp1
            have j70b : jm1 117 (70 + m) = B 116 (70 + m) := t1 _ (by omega)
            simp (decide := true) only [QX12_session, Mg_mot hR1 (Off.rf im1), hg, b32_t, gm_cont_i, gm_cont_v, if_true, if_false, d1, ix70r m hm5, j70b, hnn, hlt, hsp1, hs0', iR_18 hR1 o1, i2 l hl2, iR_101 hR1 o1, hz4, u1, gm_cat_i, n1, v1]
    · have hnn : 0 ≤ B 116 (70 + m) := hneg.2.mpr hfe
      have hlt : ¬ B 116 (70 + m) < 0 := Int32.not_lt.mpr hnn
      refine agr_no hI0 (-2) ?_ ⟨jm, ?_, p1⟩
      · simp (decide := true) only [QX11_session, Cg_mot hR ho, hg, b32_t, gm_cont_i, if_true, if_false, C_fellTo m B lm hm5, f1, hfe, not_false_eq_true]
      · simp (decide := true) only [QX12_session, Mg_mot hR ho, hg, b32_t, gm_cont_i, gm_cont_v, if_true, if_false, c1, ix70r m hm5, j70, hnn, hlt]
