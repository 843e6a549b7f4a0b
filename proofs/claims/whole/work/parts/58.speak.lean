/-! what changes: speak, praise, swear, reads -/
def rMan (c r : Nat → Int32) (nk ns a : Nat) : Prop :=
    (c (10 * a + 0) = r a ∧ ∃ q, q < ns ∧ r a = nI q) ∧
    (c (10 * a + 1) = r (7 + a) ∧ (r (7 + a) = -2 ∨ ∃ q, q < ns ∧ r (7 + a) = nI q)) ∧
    c (10 * a + 2) = r (14 + a) ∧
    (c (10 * a + 3) = r (21 + a) ∧ (r (21 + a) = -2 ∨ ∃ m, m < nk ∧ r (21 + a) = nI m ∧ r (70 + m) = -2)) ∧
    ((r (21 + a) = -2 ∧ c (10 * a + 4) = -2) ∨ (¬ r (21 + a) = -2 ∧ c (10 * a + 4) = r (28 + a) ∧ ∃ x, x < 4 ∧ r (28 + a) = nI x)) ∧
    (c (10 * a + 5) = r (35 + a) ∧ ∃ p, p ≤ 9 ∧ r (35 + a) = nI p) ∧
    (c (10 * a + 6) = r (42 + a) ∧ (r (42 + a) = -2 ∨ ∃ g, g ≤ 99 ∧ r (42 + a) = nI g)) ∧
    c (10 * a + 7) = r (49 + a) ∧
    ((r (49 + a) = -2 ∧ c (10 * a + 8) = -1) ∨ ((∃ o, o < 7 ∧ r (49 + a) = nI o) ∧ c (10 * a + 8) = r (56 + a) ∧ ∃ g, g ≤ 99 ∧ r (56 + a) = nI g)) ∧
    c (10 * a + 9) = r (63 + a)
theorem rRel_mk {c r : Nat → Int32} {nm nk ns : Nat} (h1 : ∀ a, a < nm → rMan c r nk ns a) (h2 : ∀ m, m < nk → c (70 + m) = r (70 + m) ∧ (r (70 + m) = -2 ∨ ∃ s, s < 3 ∧ r (70 + m) = nI s)) (h3 : c 75 = r 75) (h4 : c 76 = r 76) : rRel c r nm nk ns := ⟨h1, h2, h3, h4⟩
theorem rRel_man {c r : Nat → Int32} {nm nk ns : Nat} (h : rRel c r nm nk ns) {a : Nat} (ha : a < nm) : rMan c r nk ns a := h.1 a ha
theorem rMan_eq {c c' r r' : Nat → Int32} {nk ns a : Nat} (hc : ∀ f, f < 10 → c' (10 * a + f) = c (10 * a + f)) (hr : ∀ k, k < 10 → r' (7 * k + a) = r (7 * k + a)) (hm : ∀ m, m < nk → r (70 + m) = -2 → r (21 + a) = nI m → r' (70 + m) = -2) (h : rMan c r nk ns a) : rMan c' r' nk ns a := by
  have r0 : r' a = r a := by have := hr 0 (by decide); simpa using this
  have r1 : r' (7 + a) = r (7 + a) := hr 1 (by decide)
  have r2 : r' (14 + a) = r (14 + a) := hr 2 (by decide)
  have r3 : r' (21 + a) = r (21 + a) := hr 3 (by decide)
  have r4 : r' (28 + a) = r (28 + a) := hr 4 (by decide)
  have r5 : r' (35 + a) = r (35 + a) := hr 5 (by decide)
  have r6 : r' (42 + a) = r (42 + a) := hr 6 (by decide)
  have r7 : r' (49 + a) = r (49 + a) := hr 7 (by decide)
  have r8 : r' (56 + a) = r (56 + a) := hr 8 (by decide)
  have r9 : r' (63 + a) = r (63 + a) := hr 9 (by decide)
  obtain ⟨h0, h1, h2, h3, h4, h5, h6, h7, h8, h9⟩ := h
  refine ⟨?_, ?_, ?_, ⟨?_, ?_⟩, ?_, ?_, ?_, ?_, ?_, ?_⟩
  · rw [hc 0 (by decide), r0]; exact h0
  · rw [hc 1 (by decide), r1]; exact h1
  · rw [hc 2 (by decide), r2]; exact h2
  · rw [hc 3 (by decide), r3]; exact h3.1
  · rw [r3]
    rcases h3.2 with e | ⟨m, e1, e2, e3⟩
    · exact Or.inl e
    · exact Or.inr ⟨m, e1, e2, hm m e1 e3 e2⟩
  · rw [hc 4 (by decide), r3, r4]; exact h4
  · rw [hc 5 (by decide), r5]; exact h5
  · rw [hc 6 (by decide), r6]; exact h6
  · rw [hc 7 (by decide), r7]; exact h7
  · rw [hc 8 (by decide), r7, r8]; exact h8
  · rw [hc 9 (by decide), r9]; exact h9
/-- the class has kept a row and changed the one that stands -/
def cMod (B : gm_I) (nx sz : Nat) (im : gm_I) : Prop := (∀ q, gs q = false → q ≠ 22 → q ≠ 23 → q ≠ 25 + nx → im q = B q) ∧ (∀ k, gt k = true → im 84 k = B 84 k) ∧ im 23 2 = nI (nxt nx) ∧ im 23 3 = nI (szt sz) ∧ im 23 4 = B 23 4 ∧ ∀ j, j < 77 → im (25 + nx) j = B 22 j
theorem cMod_keep {B : gm_I} {nx sz : Nat} (hx : nx < 40) : cMod B nx sz (cKp B nx sz) ∧ ∀ j, cKp B nx sz 22 j = B 22 j := by
  have row : ∀ q, q ≠ 23 → cKp B nx sz q = gm_cpy B 22 (25 + nx) 77 q := fun q hq => by
    unfold cKp; rw [gu_row hq, gu_row hq]
  refine ⟨⟨fun q _ h1 h2 h3 => ?_, fun k _ => ?_, ?_, ?_, ?_, fun j hj => ?_⟩, fun j => ?_⟩
  · rw [row q h2, cpy_row h3]
  · rw [row 84 (by decide), cpy_row (by omega)]
  · unfold cKp; rw [gu_nk (by decide), gu_eq]
  · unfold cKp; rw [gu_eq]
  · unfold cKp; rw [gu_nk (by decide), gu_nk (by decide), cpy_row (by omega)]
  · rw [row _ (by omega), cpy_at hj]
  · rw [row 22 (by decide), cpy_row (by omega)]
theorem cMod.up {B im : gm_I} {nx sz : Nat} (h : cMod B nx sz im) {k : Nat} {v : Int32} : cMod B nx sz (gm_up im 22 k v) := by
  obtain ⟨h1, h2, h3, h4, h5, h6⟩ := h
  refine ⟨fun q a b c d => by rw [gu_row b]; exact h1 q a b c d, fun k hk => by rw [gu_ne (by decide)]; exact h2 k hk, by rw [gu_ne (by decide)]; exact h3, by rw [gu_ne (by decide)]; exact h4, by rw [gu_ne (by decide)]; exact h5, fun j hj => by rw [gu_ne (by omega)]; exact h6 j hj⟩
theorem cMod.off {B im im' : gm_I} {nx sz : Nat} (hx : nx < 40) (h : cMod B nx sz im) (o : Off im im') : cMod B nx sz im' ∧ im' 22 = im 22 := by
  obtain ⟨h1, h2, h3, h4, h5, h6⟩ := h
  refine ⟨⟨fun q a b c d => by rw [o.1 q a]; exact h1 q a b c d, fun k hk => by rw [o.2 k hk]; exact h2 k hk, by rw [o.1 23 rfl]; exact h3, by rw [o.1 23 rfl]; exact h4, by rw [o.1 23 rfl]; exact h5, fun j hj => by rw [o.1 _ (gs_done hx)]; exact h6 j hj⟩, o.1 22 rfl⟩
theorem cMod.roll {B im : gm_I} {nx sz l nm nk nj ns : Nat} (h : cMod B nx sz im) (hR : iRoll B l nm nk nj ns) (hx : nx < 40) : iRoll im l nm nk nj ns :=
  iRoll_eq (fun q hq => h.1 q (gs_roll hq) (by omega) (by omega) (by omega)) (h.2.1 18 rfl) hR
/-- the reference then keeps its own -/
theorem push_mod {B im1 jm : gm_I} {lm lm' : gm_L} {l nm nk nj ns nx sz : Nat} (hI : Inv B lm l nm nk nj ns) (hx : nx < 40) (hz : sz ≤ 40) (h54 : B 84 54 = nI sz) (hp : ∀ k, k < sz → rRel (B (25 + (nx + 40 - sz + k) % 40)) (fun i => B 120 (80 * k + i)) nm nk ns) (hc : cMod B nx sz im1) (ho : Off im1 jm) (hr : rRel (im1 22) (jm 117) nm nk ns) (lk : LK lm lm') : ∃ im2, gm_den 232 0 [.ref 84, .null] [] 128 gm_RF jm lm' = some (none, 128, gm_RF, im2, lm') ∧ Inv im2 lm' l nm nk nj ns ∧ ∀ j, j < 80 → im2 116 j = jm 117 j := by
  have j54 : jm 84 54 = nI sz := by rw [ho.2 54 rfl, hc.2.1 54 rfl]; exact h54
  obtain ⟨im2, k1, k2, k3, k4, k5, k6⟩ := M_keeps hz j54 lm'
  have hm7 := iR_nm hI.1
  have hk5 := iR_nk hI.1
  have cell : ∀ q, gs q = false → q ≠ 116 → q ≠ 120 → im2 q = im1 q := fun q a b c => by
    have h84 : q ≠ 84 := by intro e; subst e; exact absurd a (by decide)
    rw [k5 q h84 b c, ho.1 q a]
  have e120 : jm 120 = B 120 := by rw [ho.1 120 rfl]; exact hc.1 120 rfl (by decide) (by decide) (by omega)
  have e116 : jm 116 = B 116 := by rw [ho.1 116 rfl]; exact hc.1 116 rfl (by decide) (by decide) (by omega)
  refine ⟨im2, k1, Inv_push hI hx hz hp (fun q a b c d e f => by rw [cell q a e f]; exact hc.1 q a b c d) (fun k hk hk2 => by rw [k6 k hk2, ho.2 k hk]; exact hc.2.1 k hk) ?_ ?_ ?_ k3 ?_ ?_ ?_ lk, k4⟩
  · rw [cell 23 rfl (by decide) (by decide)]; exact hc.2.2.1
  · rw [cell 23 rfl (by decide) (by decide)]; exact hc.2.2.2.1
  · rw [cell 23 rfl (by decide) (by decide)]; exact hc.2.2.2.2.1
  · intro j hj
    rw [cell _ (gs_done hx) (by omega) (by omega)]; exact hc.2.2.2.2.2 j hj
  · intro k i hk hi
    rw [k2 k i hk hi, e120, e116]
  · exact rRel_eq hm7 hk5 hr (fun j _ => by rw [cell 22 rfl (by decide) (by decide)]) (fun j hj => k4 j hj)
theorem M_silences {im : gm_I} {a : Nat} (ha : a < 7) (lm : gm_L) : gm_den 225 0 [.ref 84, .int (nI a)] [] 128 gm_RF im lm = some (none, 128, gm_RF, gm_up (gm_up (gm_up (gm_up im 117 (21 + a) (-2)) 117 (28 + a) 0) 117 (49 + a) (-2)) 117 (56 + a) 0, lm) := by
  simp only [QX12_silences, ixr7 a ha, if_true]
theorem A_speak (a m mn : Int32) : Agr 118 233 [.ref 0, .int a, .int m, .int mn] [.ref 84, .int a, .int m, .int mn] := by
  intro B lm l nm nk nj ns hI
  have hI0 := hI
  obtain ⟨hR, hr, ⟨nx, sz, hx, hz, e2, e3, e54, hp⟩, -⟩ := hI
  have hm7 := iR_nm hR
  have hk5 := iR_nk hR
  have no : (∀ im lm1, Off B im → LK lm lm1 → ∃ im2 lm2, gm_den 233 0 [.ref 84, .int a, .int m, .int mn] [] 128 gm_RF im lm1 = some (some (.int 0), 128, gm_RF, im2, lm2) ∧ Off B im2 ∧ LK lm lm2) → gm_den 118 0 [.ref 0, .int a, .int m, .int mn] [] 128 gm_RF B lm = some (some (.int 0), 128, gm_RF, B, lm) → ∃ (v : Int32) (im1 : gm_I) (lm1 : gm_L) (im2 : gm_I) (lm2 : gm_L) (l' nm' nk' nj' ns' : Nat), gm_den 118 0 [.ref 0, .int a, .int m, .int mn] [] 128 gm_RF B lm = some (some (.int v), 128, gm_RF, im1, lm1) ∧ gm_den 233 0 [.ref 84, .int a, .int m, .int mn] [] 128 gm_RF im1 lm1 = some (some (.int v), 128, gm_RF, im2, lm2) ∧ Inv im2 lm2 l' nm' nk' nj' ns' := by
    intro h1 h2
    obtain ⟨im2, lm2, h3, o3, k3⟩ := h1 B lm (Off.rf B) (LK.rf lm)
    exact ⟨0, B, lm, im2, lm2, l, nm, nk, nj, ns, h2, h3, Inv_off hI0 o3 k3⟩
  cases hg : okI nm a with
  | false =>
    refine no (fun im lm1 ho hk => ⟨im, lm1, ?_, ho, hk⟩) ?_
    · simp (decide := true) only [QX12_speak, Mg_man hR ho, hg, b32_f, gm_cont_i, if_true, if_false, nb0]
    · simp (decide := true) only [QX11_speak, Cg_man hR (Off.rf B), hg, b32_f, gm_cont_i, if_true, if_false, nb0]
  | true =>
    obtain ⟨j, hj, rfl⟩ := okI_t (by omega) hg
    have hj7 : j < 7 := by omega
    have ht := top_neg hk5 hr hj
    have htc := (rR_top hr hj).1
    by_cases hm1 : m = -1
    · subst hm1
      by_cases hs : B 116 (21 + j) = -2
      · refine no (fun im lm1 ho hk => ?_) ?_
        · obtain ⟨jm1, c1, p1, r1, -, -⟩ := M_copies hR ho lm1
          refine ⟨jm1, lm1, ?_, p1, hk⟩
          simp (decide := true) only [QX12_speak, Mg_man hR ho, hg, b32_t, gm_cont_i, gm_cont_v, if_true, if_false, nb0, c1, ixr7 j hj7, r1 (21 + j) (show 21 + j < 80 by omega), show ¬ 0 ≤ B 116 (21 + j) from fun hh => ht.2.mp hh hs]
        · simp (decide := true) only [QX11_speak, Cg_man hR (Off.rf B), hg, b32_t, gm_cont_i, if_true, if_false, nb0, Cg_sil (Off.rf B) hj7, htc, hs]
      · obtain ⟨cm0, row0⟩ := cMod_keep (B := B) (sz := sz) hx
        have hk := C_keep hx hz e2 e3 lm
        let im1 := cHush (cKp B nx sz) j
        have cm1 : cMod B nx sz im1 := (((cm0.up).up).up).up
        have hR1 := cm1.roll hR hx
        have e116 : im1 116 = B 116 := cm1.1 116 rfl (by decide) (by decide) (by omega)
        obtain ⟨jm1, c1, p1, r1, -, -⟩ := M_copies hR1 (Off.rf im1) lm
        rw [e116] at r1
        let jm := gm_up (gm_up (gm_up (gm_up jm1 117 (21 + j) (-2)) 117 (28 + j) 0) 117 (49 + j) (-2)) 117 (56 + j) 0
        have pj : Off im1 jm := (((p1.up rfl (by decide)).up rfl (by decide)).up rfl (by decide)).up rfl (by decide)
        have cj : ∀ i, i ≠ 10 * j + 3 → i ≠ 10 * j + 4 → i ≠ 10 * j + 7 → i ≠ 10 * j + 8 → im1 22 i = B 22 i := fun i a b c d => by
          show cHush (cKp B nx sz) j 22 i = _
          unfold cHush
          rw [gu_nk d, gu_nk c, gu_nk b, gu_nk a]; exact row0 i
        have rj : ∀ i, i < 80 → i ≠ 21 + j → i ≠ 28 + j → i ≠ 49 + j → i ≠ 56 + j → jm 117 i = B 116 i := fun i h a b c d => by
          show gm_up (gm_up (gm_up (gm_up jm1 117 (21 + j) (-2)) 117 (28 + j) 0) 117 (49 + j) (-2)) 117 (56 + j) 0 117 i = _
          rw [gu_nk d, gu_nk c, gu_nk b, gu_nk a]; exact r1 i h
        have hrel : rRel (im1 22) (jm 117) nm nk ns := by
          refine rRel_mk (fun b hb => ?_) (fun q hq => ?_) ?_ ?_
          · by_cases e : b = j
            · subst e
              obtain ⟨h0, h1, h2, h3, h4, h5, h6, h7, h8, h9⟩ := rRel_man hr hj
              have c3 : im1 22 (10 * b + 3) = -2 := by show cHush (cKp B nx sz) b 22 _ = _; unfold cHush; rw [gu_nk (by omega), gu_nk (by omega), gu_nk (by omega), gu_eq]
              have c4 : im1 22 (10 * b + 4) = -2 := by show cHush (cKp B nx sz) b 22 _ = _; unfold cHush; rw [gu_nk (by omega), gu_nk (by omega), gu_eq]
              have c7 : im1 22 (10 * b + 7) = -2 := by show cHush (cKp B nx sz) b 22 _ = _; unfold cHush; rw [gu_nk (by omega), gu_eq]
              have c8 : im1 22 (10 * b + 8) = -1 := by show cHush (cKp B nx sz) b 22 _ = _; unfold cHush; rw [gu_eq]
              have r21 : jm 117 (21 + b) = -2 := by show gm_up (gm_up (gm_up (gm_up jm1 117 (21 + b) (-2)) 117 (28 + b) 0) 117 (49 + b) (-2)) 117 (56 + b) 0 117 _ = _; rw [gu_nk (by omega), gu_nk (by omega), gu_nk (by omega), gu_eq]
              have r49 : jm 117 (49 + b) = -2 := by show gm_up (gm_up (gm_up (gm_up jm1 117 (21 + b) (-2)) 117 (28 + b) 0) 117 (49 + b) (-2)) 117 (56 + b) 0 117 _ = _; rw [gu_nk (by omega), gu_eq]
              refine ⟨?_, ?_, ?_, ⟨c3.trans r21.symm, Or.inl r21⟩, Or.inl ⟨r21, c4⟩, ?_, ?_, c7.trans r49.symm, Or.inl ⟨r49, c8⟩, ?_⟩
              · rw [cj _ (by omega) (by omega) (by omega) (by omega), rj b (by omega) (by omega) (by omega) (by omega) (by omega)]; exact h0
              · rw [cj _ (by omega) (by omega) (by omega) (by omega), rj (7 + b) (by omega) (by omega) (by omega) (by omega) (by omega)]; exact h1
              · rw [cj _ (by omega) (by omega) (by omega) (by omega), rj (14 + b) (by omega) (by omega) (by omega) (by omega) (by omega)]; exact h2
              · rw [cj _ (by omega) (by omega) (by omega) (by omega), rj (35 + b) (by omega) (by omega) (by omega) (by omega) (by omega)]; exact h5
              · rw [cj _ (by omega) (by omega) (by omega) (by omega), rj (42 + b) (by omega) (by omega) (by omega) (by omega) (by omega)]; exact h6
              · rw [cj _ (by omega) (by omega) (by omega) (by omega), rj (63 + b) (by omega) (by omega) (by omega) (by omega) (by omega)]; exact h9
            · exact rMan_eq (fun f hf => cj _ (by omega) (by omega) (by omega) (by omega)) (fun k hk => rj _ (by omega) (by omega) (by omega) (by omega) (by omega)) (fun q hq h1 _ => by rw [rj _ (by omega) (by omega) (by omega) (by omega) (by omega)]; exact h1) (rRel_man hr hb)
          · rw [cj _ (by omega) (by omega) (by omega) (by omega), rj _ (by omega) (by omega) (by omega) (by omega) (by omega)]; exact rR_fell hr hq
          · rw [cj _ (by omega) (by omega) (by omega) (by omega), rj _ (by omega) (by omega) (by omega) (by omega) (by omega)]; exact rR_day hr
          · rw [cj _ (by omega) (by omega) (by omega) (by omega), rj _ (by omega) (by omega) (by omega) (by omega) (by omega)]; exact rR_paid hr
        obtain ⟨im2, q1, q2, -⟩ := push_mod hI0 hx hz e54 hp cm1 pj hrel (LK.rf lm)
        refine ⟨1, im1, lm, im2, lm, l, nm, nk, nj, ns, ?_, ?_, q2⟩
        · simp (decide := true) only [QX11_speak, Cg_man hR (Off.rf B), hg, b32_t, gm_cont_i, gm_cont_v, if_true, if_false, nb1, Cg_sil (Off.rf B) hj7, htc, hs, hk, C_hush j _ lm hj7]
          rfl
        · have hp21 : 0 ≤ jm1 117 (21 + j) := by rw [r1 _ (by omega)]; exact ht.2.mpr hs
          simp (decide := true) only [QX12_speak, Mg_man hR1 (Off.rf im1), hg, b32_t, gm_cont_i, gm_cont_v, if_true, if_false, nb1, c1, ixr7 j hj7, hp21, M_silences hj7]
          rw [show gm_up (gm_up (gm_up (gm_up jm1 117 (21 + j) (-2)) 117 (28 + j) 0) 117 (49 + j) (-2)) 117 (56 + j) 0 = jm from rfl, q1]
          simp (decide := true) only [QX12_speak, gm_cont_v, nb1]
    · cases hg2 : okI nk m with
      | false =>
        refine no (fun im lm1 ho hk => ?_) ?_
        · obtain ⟨jm1, c1, p1, r1, -, -⟩ := M_copies hR ho lm1
          refine ⟨jm1, lm1, ?_, p1, hk⟩
          simp (decide := true) only [QX12_speak, Mg_man hR ho, Mg_mot hR p1, hg, hg2, hm1, b32_t, b32_f, gm_cont_i, gm_cont_v, if_true, if_false, nb0, c1]
        · simp (decide := true) only [QX11_speak, Cg_man hR (Off.rf B), Cg_mot hR (Off.rf B), hg, hg2, hm1, b32_t, b32_f, gm_cont_i, if_true, if_false, nb0]
      | true =>
        obtain ⟨q, hq, rfl⟩ := okI_t (by omega) hg2
        have hq5 : q < 5 := by omega
        have hfn := fell_neg hr hq
        have hfc := (rR_fell hr hq).1
        cases hg3 : okI 4 mn with
        | false =>
          refine no (fun im lm1 ho hk => ?_) ?_
          · obtain ⟨jm1, c1, p1, r1, -, -⟩ := M_copies hR ho lm1
            refine ⟨jm1, lm1, ?_, p1, hk⟩
            simp (decide := true) only [QX12_speak, Mg_man hR ho, Mg_mot hR p1, Mg_mnr, hg, hg2, hg3, hm1, b32_t, b32_f, gm_cont_i, gm_cont_v, if_true, if_false, nb0, c1]
          · simp (decide := true) only [QX11_speak, Cg_man hR (Off.rf B), Cg_mot hR (Off.rf B), Cg_mnr, hg, hg2, hg3, hm1, b32_t, b32_f, gm_cont_i, if_true, if_false, nb0]
        | true =>
          by_cases hf : B 116 (70 + q) = -2
          · have hf2 : ¬ 0 ≤ B 116 (70 + q) := fun hh => hfn.2.mp hh hf
            by_cases hsame : B 116 (21 + j) = nI q ∧ B 116 (28 + j) = mn
            · have hne : ¬ B 116 (21 + j) = -2 := fun h => by
                rw [hsame.1] at h; exact eO_256 (show q < 256 by omega) h
              have hmc : B 22 (10 * j + 4) = B 116 (28 + j) := by
                rcases rR_man hr hj with ⟨e, -⟩ | ⟨-, e, -⟩
                · exact absurd e hne
                · exact e
              refine no (fun im lm1 ho hk => ?_) ?_
              · obtain ⟨jm1, c1, p1, r1, -, -⟩ := M_copies hR ho lm1
                refine ⟨jm1, lm1, ?_, p1, hk⟩
                simp (decide := true) only [QX12_speak, Mg_man hR ho, Mg_mot hR p1, Mg_mnr, hg, hg2, hg3, hm1, b32_t, gm_cont_i, gm_cont_v, if_true, if_false, nb0, c1, ixr7 j hj7, ixm q hq5, r1 (70 + q) (show 70 + q < 80 by omega), hf2, r1 (21 + j) (show 21 + j < 80 by omega), r1 (28 + j) (show 28 + j < 80 by omega), hsame.1, hsame.2]
              · simp (decide := true) only [QX11_speak, Cg_man hR (Off.rf B), Cg_mot hR (Off.rf B), Cg_mnr, hg, hg2, hg3, hm1, b32_t, gm_cont_i, if_true, if_false, nb0, C_fellTo q B lm hq5, hfc, hf, C_get j B lm hj7, htc, hsame.1, hmc, hsame.2]
            · obtain ⟨cm0, row0⟩ := cMod_keep (B := B) (sz := sz) hx
              have hk := C_keep hx hz e2 e3 lm
              let im1 := gm_up (gm_up (cKp B nx sz) 22 (10 * j + 3) (nI q)) 22 (10 * j + 4) mn
              have cm1 : cMod B nx sz im1 := (cm0.up).up
              have hR1 := cm1.roll hR hx
              have e116 : im1 116 = B 116 := cm1.1 116 rfl (by decide) (by decide) (by omega)
              obtain ⟨jm1, c1, p1, r1, -, -⟩ := M_copies hR1 (Off.rf im1) lm
              rw [e116] at r1
              let jm := gm_up (gm_up jm1 117 (21 + j) (nI q)) 117 (28 + j) mn
              have pj : Off im1 jm := (p1.up rfl (by decide)).up rfl (by decide)
              have cj : ∀ i, i ≠ 10 * j + 3 → i ≠ 10 * j + 4 → im1 22 i = B 22 i := fun i a b => by
                show gm_up (gm_up (cKp B nx sz) 22 (10 * j + 3) (nI q)) 22 (10 * j + 4) mn 22 i = _
                rw [gu_nk b, gu_nk a]; exact row0 i
              have rj : ∀ i, i < 80 → i ≠ 21 + j → i ≠ 28 + j → jm 117 i = B 116 i := fun i h a b => by
                show gm_up (gm_up jm1 117 (21 + j) (nI q)) 117 (28 + j) mn 117 i = _
                rw [gu_nk b, gu_nk a]; exact r1 i h
              obtain ⟨x, hx4, rfl⟩ := okI_t (by decide) hg3
              have hrel : rRel (im1 22) (jm 117) nm nk ns := by
                refine rRel_mk (fun b hb => ?_) (fun q hq => ?_) ?_ ?_
                · by_cases e : b = j
                  · subst e
                    obtain ⟨h0, h1, h2, h3, h4, h5, h6, h7, h8, h9⟩ := rRel_man hr hj
                    have c3 : im1 22 (10 * b + 3) = nI q := by show gm_up (gm_up (cKp B nx sz) 22 (10 * b + 3) (nI q)) 22 (10 * b + 4) (nI x) 22 _ = _; rw [gu_nk (by omega), gu_eq]
                    have c4 : im1 22 (10 * b + 4) = nI x := gu_eq
                    have r21 : jm 117 (21 + b) = nI q := by show gm_up (gm_up jm1 117 (21 + b) (nI q)) 117 (28 + b) (nI x) 117 _ = _; rw [gu_nk (by omega), gu_eq]
                    have r28 : jm 117 (28 + b) = nI x := gu_eq
                    have r70 : jm 117 (70 + q) = -2 := by rw [rj _ (by omega) (by omega) (by omega)]; exact hf
                    have hne : ¬ jm 117 (21 + b) = -2 := by rw [r21]; exact eO_256 (by omega)
                    refine ⟨?_, ?_, ?_, ⟨c3.trans r21.symm, Or.inr ⟨q, hq, r21, r70⟩⟩, Or.inr ⟨hne, c4.trans r28.symm, x, hx4, r28⟩, ?_, ?_, ?_, ?_, ?_⟩
                    · rw [cj _ (by omega) (by omega), rj b (by omega) (by omega) (by omega)]; exact h0
                    · rw [cj _ (by omega) (by omega), rj (7 + b) (by omega) (by omega) (by omega)]; exact h1
                    · rw [cj _ (by omega) (by omega), rj (14 + b) (by omega) (by omega) (by omega)]; exact h2
                    · rw [cj _ (by omega) (by omega), rj (35 + b) (by omega) (by omega) (by omega)]; exact h5
                    · rw [cj _ (by omega) (by omega), rj (42 + b) (by omega) (by omega) (by omega)]; exact h6
                    · rw [cj _ (by omega) (by omega), rj (49 + b) (by omega) (by omega) (by omega)]; exact h7
                    · rw [cj _ (by omega) (by omega), rj (49 + b) (by omega) (by omega) (by omega), rj (56 + b) (by omega) (by omega) (by omega)]; exact h8
                    · rw [cj _ (by omega) (by omega), rj (63 + b) (by omega) (by omega) (by omega)]; exact h9
                  · exact rMan_eq (fun f hf => cj _ (by omega) (by omega)) (fun k hk => rj _ (by omega) (by omega) (by omega)) (fun q hq h1 _ => by rw [rj _ (by omega) (by omega) (by omega)]; exact h1) (rRel_man hr hb)
                · rw [cj _ (by omega) (by omega), rj _ (by omega) (by omega) (by omega)]; exact rR_fell hr hq
                · rw [cj _ (by omega) (by omega), rj _ (by omega) (by omega) (by omega)]; exact rR_day hr
                · rw [cj _ (by omega) (by omega), rj _ (by omega) (by omega) (by omega)]; exact rR_paid hr
              obtain ⟨im2, q1, q2, -⟩ := push_mod hI0 hx hz e54 hp cm1 pj hrel (LK.rf lm)
              refine ⟨1, im1, lm, im2, lm, l, nm, nk, nj, ns, ?_, ?_, q2⟩
              · by_cases ha1 : B 116 (21 + j) = nI q
                · have hne : ¬ B 116 (21 + j) = -2 := fun h => by
                    rw [ha1] at h; exact eO_256 (show q < 256 by omega) h
                  have hmc : B 22 (10 * j + 4) = B 116 (28 + j) := by
                    rcases rR_man hr hj with ⟨e, -⟩ | ⟨-, e, -⟩
                    · exact absurd e hne
                    · exact e
                  have hmn : ¬ B 116 (28 + j) = nI x := fun h => hsame ⟨ha1, h⟩
                  simp (decide := true) only [QX11_speak, Cg_man hR (Off.rf B), Cg_mot hR (Off.rf B), Cg_mnr, hg, hg2, hg3, hm1, b32_t, gm_cont_i, gm_cont_v, if_true, if_false, nb1, C_fellTo q B lm hq5, hfc, hf, C_get j B lm hj7, htc, ha1, hmc, hmn, hk, C_set j _ _ lm hj7]
                  rfl
                · simp (decide := true) only [QX11_speak, Cg_man hR (Off.rf B), Cg_mot hR (Off.rf B), Cg_mnr, hg, hg2, hg3, hm1, b32_t, gm_cont_i, gm_cont_v, if_true, if_false, nb1, C_fellTo q B lm hq5, hfc, hf, C_get j B lm hj7, htc, ha1, hk, C_set j _ _ lm hj7]
                  rfl
              · by_cases ha1 : B 116 (21 + j) = nI q
                · have hmn : ¬ B 116 (28 + j) = nI x := fun h => hsame ⟨ha1, h⟩
                  simp (decide := true) only [QX12_speak, Mg_man hR1 (Off.rf im1), Mg_mot hR1 p1, Mg_mnr, hg, hg2, hg3, hm1, b32_t, gm_cont_i, gm_cont_v, if_true, if_false, nb1, c1, ixr7 j hj7, ixm q hq5, r1 (70 + q) (show 70 + q < 80 by omega), hf2, r1 (21 + j) (show 21 + j < 80 by omega), r1 (28 + j) (show 28 + j < 80 by omega), ha1, hmn]
                  rw [show gm_up (gm_up jm1 117 (21 + j) (nI q)) 117 (28 + j) (nI x) = jm from rfl, q1]
                  simp (decide := true) only [QX12_speak, gm_cont_v, nb1]
                · simp (decide := true) only [QX12_speak, Mg_man hR1 (Off.rf im1), Mg_mot hR1 p1, Mg_mnr, hg, hg2, hg3, hm1, b32_t, gm_cont_i, gm_cont_v, if_true, if_false, nb1, c1, ixr7 j hj7, ixm q hq5, r1 (70 + q) (show 70 + q < 80 by omega), hf2, r1 (21 + j) (show 21 + j < 80 by omega), ha1]
                  rw [show gm_up (gm_up jm1 117 (21 + j) (nI q)) 117 (28 + j) (nI x) = jm from rfl, q1]
                  simp (decide := true) only [QX12_speak, gm_cont_v, nb1]
          · have hf2 := hfn.2.mpr hf
            refine no (fun im lm1 ho hk => ?_) ?_
            · obtain ⟨jm1, c1, p1, r1, -, -⟩ := M_copies hR ho lm1
              refine ⟨jm1, lm1, ?_, p1, hk⟩
              simp (decide := true) only [QX12_speak, Mg_man hR ho, Mg_mot hR p1, Mg_mnr, hg, hg2, hg3, hm1, b32_t, gm_cont_i, gm_cont_v, if_true, if_false, nb0, c1, ixr7 j hj7, ixm q hq5, r1 (70 + q) (show 70 + q < 80 by omega), hf2]
            · simp (decide := true) only [QX11_speak, Cg_man hR (Off.rf B), Cg_mot hR (Off.rf B), Cg_mnr, hg, hg2, hg3, hm1, b32_t, gm_cont_i, if_true, if_false, nb0, C_fellTo q B lm hq5, hfc, hf]
