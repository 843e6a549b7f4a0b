/-! questions: change, both sides -/
def rcF (B : gm_I) (nj : Nat) (f : Nat → Bool) (nm : Nat) (side : Int32) (can : Nat) (x : Option Nat) (t : Nat) : Option Nat := if t &&& can == t then chG B nj f nm side x t else x
theorem rcF_lt {B : gm_I} {nj : Nat} {f : Nat → Bool} {nm : Nat} {side : Int32} {can n b : Nat} (h : fI (rcF B nj f nm side can) none n = some b) : b < n := by
  induction n generalizing b with
  | zero => cases h
  | succ n ih =>
    simp only [fI] at h
    generalize hg : fI (rcF B nj f nm side can) none n = o at h ih
    unfold rcF chG at h
    split at h
    · cases o with
      | none => simp only [] at h; split at h <;> cases h; omega
      | some c =>
        have := ih rfl
        simp only [] at h
        split at h
        · split at h <;> cases h <;> omega
        · cases h; omega
    · have := ih h; omega
section
variable {B : gm_I} {l nm nk nj ns : Nat}
theorem M_ch_loop (hR : iRoll B l nm nk nj ns) (hr : rRel (B 22) (B 116) nm nk ns) {m : Nat} (hm : m < nk) (side what : Int32) {can : Nat} (hcan : can < 128) (hcs : ∀ a, a < nm → can.testBit a = true → B 116 (7 + a) = -2) (lm : gm_L) : ∀ (w t : Nat) (im : gm_I) (x7 : Value), t + w = can + 1 → Off B im → x7.category = 1 → ∃ im' x7', Off B im' ∧ gm_den 247 85 [.ref 84, .int (nI m), .int side, .int what, .int (nI can), .int (eO (fI (rcF B nj (cSpk B (nI m)) nm side can) none t)), .int (nI t), x7] [] 128 gm_RF im lm = gm_den 247 206 [.ref 84, .int (nI m), .int side, .int what, .int (nI can), .int (eO (fI (rcF B nj (cSpk B (nI m)) nm side can) none (can + 1))), .int (nI (can + 1)), x7'] [] 128 gm_RF im' lm := by
  have hm7 := iR_nm hR
  intro w
  induction w with
  | zero =>
    intro t im x7 hw ho c7
    have : t = can + 1 := by omega
    subst this
    refine ⟨im, x7, ho, ?_⟩
    rw [LX12_change_85]
    have h1 : nI can < nI (can + 1) := nI_lt (by omega) (by omega)
    simp only [QX12_change, h1, if_true]
  | succ w ih =>
    intro t im x7 hw ho c7
    have ht : t < 128 := by omega
    have h1 : ¬ nI can < nI t := nI_nlt (by omega) (by omega)
    have hsub := subn ht hcan
    by_cases hc : (t &&& can == t) = true
    · have hz := hsub.mpr hc
      have htc : ∀ a, a < nm → t.testBit a = true → B 116 (7 + a) = -2 := fun a ha hb => hcs a ha (by
        rw [beq_iff_eq, sub_bits] at hc
        exact hc a hb)
      -- what is tried
      have try1 : ∃ im1, Off B im1 ∧ gm_den 247 123 [.ref 84, .int (nI m), .int side, .int what, .int (nI can), .int (eO (fI (rcF B nj (cSpk B (nI m)) nm side can) none t)), .int (nI t), x7] [] 128 gm_RF im lm = gm_cont 247 192 [.ref 84, .int (nI m), .int side, .int what, .int (nI can), .int (eO (fI (rcF B nj (cSpk B (nI m)) nm side can) none t)), .int (nI t), .int (nI nm)] [] 128 (some (some (.int (eO (vFall B nj (cSpk B (nI m)) nm (chV B t)))), 128, gm_RF, im1, lm)) := by
        obtain ⟨jm1, c1, p1, r1, -, -⟩ := M_copies hR ho lm
        obtain ⟨jm2, p2, s2, h2⟩ := M_sw_loop hR hr (nI m) side what (nI can) (eO (fI (rcF B nj (cSpk B (nI m)) nm side can) none t)) ht lm nm 0 jm1 (by omega) p1 ⟨fun j _ hj => r1 j hj, fun b hb => by rw [if_neg (by omega)]; exact ⟨r1 _ (by omega), r1 _ (by omega)⟩⟩
        obtain ⟨hf, hok⟩ := ch_fall (nj := nj) hR hr hm p2 s2 htc
        obtain ⟨jm3, h3, n3, -⟩ := M_fallsTo hR p2 hok (nI m) 0 (by decide) lm
        rw [hf] at h3
        rw [show (nI 0 : Int32) = 0 from rfl] at h3
        refine ⟨jm3, p2.tr n3.off, ?_⟩
        simp (decide := true) only [QX12_change, c1, gm_cont_v, gm_cat_i, c7]
        rw [show (0 : Int32) = nI 0 from rfl, h2]
        simp only [QX12_change]
        rw [h3]
      obtain ⟨im1, o1, ht1⟩ := try1
      have skip : ∀ (X : Option Nat) (im2 : gm_I) (x7 : Value), Off B im2 → x7.category = 1 → fI (rcF B nj (cSpk B (nI m)) nm side can) none (t + 1) = X → ∃ im' x7', Off B im' ∧ gm_den 247 200 [.ref 84, .int (nI m), .int side, .int what, .int (nI can), .int (eO X), .int (nI t), x7] [] 128 gm_RF im2 lm = gm_den 247 206 [.ref 84, .int (nI m), .int side, .int what, .int (nI can), .int (eO (fI (rcF B nj (cSpk B (nI m)) nm side can) none (can + 1))), .int (nI (can + 1)), x7'] [] 128 gm_RF im' lm := by
        intro X im2 x7 o2 c7 hX
        obtain ⟨im', x7', o', h'⟩ := ih (t + 1) im2 x7 (by omega) o2 c7
        rw [hX] at h'
        refine ⟨im', x7', o', ?_⟩
        rw [← h']
        simp only [QX12_change, nI_a1]
      cases hg : fI (rcF B nj (cSpk B (nI m)) nm side can) none t with
      | none =>
        rw [hg] at ht1
        have e0 : gm_den 247 85 [.ref 84, .int (nI m), .int side, .int what, .int (nI can), .int (eO none), .int (nI t), x7] [] 128 gm_RF im lm = gm_den 247 123 [.ref 84, .int (nI m), .int side, .int what, .int (nI can), .int (eO none), .int (nI t), x7] [] 128 gm_RF im lm := by
          rw [LX12_change_85]
          simp (decide := true) only [QX12_change, h1, hz, if_true, if_false, eO_n, eO_s]
        rw [e0, ht1]
        by_cases hs : eO (vFall B nj (cSpk B (nI m)) nm (chV B t)) = side
        · obtain ⟨im', x7', o', h'⟩ := skip (some t) im1 (.int (nI nm)) o1 rfl (by simp only [fI, hg, rcF, hc, if_true, chG, hs])
          refine ⟨im', x7', o', ?_⟩
          rw [← h']
          simp (decide := true) only [QX12_change, gm_cont_i, hs, if_true, if_false, gm_cat_i, eO_n, eO_s]
        · obtain ⟨im', x7', o', h'⟩ := skip none im1 (.int (nI nm)) o1 rfl (by simp only [fI, hg, rcF, hc, if_true, chG, hs, if_false])
          refine ⟨im', x7', o', ?_⟩
          rw [← h']
          simp (decide := true) only [QX12_change, gm_cont_i, hs, if_true, if_false, eO_n, eO_s]
      | some b =>
        rw [hg] at ht1
        have hb := rcF_lt hg
        have hbn : ¬ nI b < 0 := nI_nlt (Nat.zero_le b) (by omega)
        have m1 := M_bits im lm (show t < 256 by omega)
        have m2 := M_bits im lm (show b < 256 by omega)
        have p1 := pc_le ⟨t, by omega⟩
        have p2 := pc_le ⟨b, by omega⟩
        simp only [] at p1 p2
        by_cases hpc : pc t < pc b
        · have hx : nI (pc t) < nI (pc b) := nI_lt hpc (by omega)
          have e0 : gm_den 247 85 [.ref 84, .int (nI m), .int side, .int what, .int (nI can), .int (eO (some b)), .int (nI t), x7] [] 128 gm_RF im lm = gm_den 247 123 [.ref 84, .int (nI m), .int side, .int what, .int (nI can), .int (eO (some b)), .int (nI t), x7] [] 128 gm_RF im lm := by
            rw [LX12_change_85]
            simp (decide := true) only [QX12_change, h1, hz, if_true, if_false, eO_n, eO_s, hbn, m1, m2, gm_cont_i, hx]
          rw [e0, ht1]
          by_cases hs : eO (vFall B nj (cSpk B (nI m)) nm (chV B t)) = side
          · obtain ⟨im', x7', o', h'⟩ := skip (some t) im1 (.int (nI nm)) o1 rfl (by simp only [fI, hg, rcF, hc, if_true, chG, hpc, hs])
            refine ⟨im', x7', o', ?_⟩
            rw [← h']
            simp (decide := true) only [QX12_change, gm_cont_i, hs, if_true, if_false, gm_cat_i, eO_n, eO_s]
          · obtain ⟨im', x7', o', h'⟩ := skip (some b) im1 (.int (nI nm)) o1 rfl (by simp only [fI, hg, rcF, hc, if_true, chG, hpc, hs, if_false])
            refine ⟨im', x7', o', ?_⟩
            rw [← h']
            simp (decide := true) only [QX12_change, gm_cont_i, hs, if_true, if_false, eO_n, eO_s]
        · have hx : ¬ nI (pc t) < nI (pc b) := nI_nlt (by omega) (by omega)
          obtain ⟨im', x7', o', h'⟩ := skip (some b) im x7 ho c7 (by simp only [fI, hg, rcF, hc, if_true, chG, hpc, if_false])
          refine ⟨im', x7', o', ?_⟩
          rw [← h', LX12_change_85]
          simp (decide := true) only [QX12_change, h1, hz, if_true, if_false, eO_n, eO_s, hbn, m1, m2, gm_cont_i, hx]
    · have hz : ¬ (nI t &&& (nI can ^^^ -1) = 0) := fun h => hc (hsub.mp h)
      have e : fI (rcF B nj (cSpk B (nI m)) nm side can) none (t + 1) = fI (rcF B nj (cSpk B (nI m)) nm side can) none t := by
        simp only [fI]; generalize fI (rcF B nj (cSpk B (nI m)) nm side can) none t = o; unfold rcF; rw [if_neg hc]
      obtain ⟨im', x7', o', h'⟩ := ih (t + 1) im x7 (by omega) ho c7
      rw [e] at h'
      refine ⟨im', x7', o', ?_⟩
      rw [← h', LX12_change_85]
      simp (decide := true) only [QX12_change, h1, hz, if_true, if_false, nI_a1]
end
theorem eS_map (f : Nat → Bool) (nm : Nat) (x : Option Nat) : eS f nm x = eO (x.map (spr f nm)) := by cases x <;> rfl
/-- the class's best set is the reference's -/
theorem ch_same {B : gm_I} {nj : Nat} {f : Nat → Bool} {nm nk ns : Nat} (hm : nm ≤ 7) (hr : rRel (B 22) (B 116) nm nk ns) (side : Int32) : (fI (chgF side (fun s => vFall B nj f nm (fun a => if s.testBit (gc f a) then upd (upd (upd (cV B a) 8 (B 22 75)) 4 (B 22 (10 * a + 0))) 9 1 else dV B (B 22 75) a)) (fun s => allR (mayP B f nm s) 0 (gc f nm))) none (2 ^ gc f nm)).map (spr f nm) = fI (rcF B nj f nm side (canN (gM f nm) (fun a => !decide (B 116 (7 + a) = -2)) nm)) none (canN (gM f nm) (fun a => !decide (B 116 (7 + a) = -2)) nm + 1) := by
  have hM := gM_128 f hm
  let OK : Nat → Bool := fun t => preR (fun a => !(f a && t.testBit a && swB B a)) nm
  rw [chgF_map hm (fun t => vFall B nj f nm (chV B t)) OK (by
    intro s hs
    apply vFall_ext (fun _ _ => rfl)
    intro a ha hf
    unfold chV
    rw [spr_bit f s ha hf]
    exact vEq.rf _) (by
    intro s hs
    rw [Bool.eq_iff_iff, allR_iff, preR_iff]
    constructor
    · intro h a ha
      cases hf : f a with
      | false => rfl
      | true =>
        have hg := gc_lt f ha hf
        have := h (gc f a) (Nat.zero_le _) (by omega)
        unfold mayP at this
        rw [wh_gc f ha hf] at this
        rw [spr_bit f s ha hf]
        simpa using this
    · intro h i _ hi
      obtain ⟨w1, w2, w3⟩ := wh_ok f (show i < gc f nm by omega)
      have := h (wh f nm i) w1
      rw [w2, spr_bit f s w1 w2, w3] at this
      unfold mayP
      simpa using this) (2 ^ gc f nm) (Nat.le_refl _)]
  rw [set_fold f hm (chGo side (fun t => vFall B nj f nm (chV B t)) OK) none]
  generalize hcan : canN (gM f nm) (fun a => !decide (B 116 (7 + a) = -2)) nm = can
  have hc128 : can < 128 := by rw [← hcan]; exact canN_lt hM _ nm
  have hiff : ∀ t, ((t &&& can == t) = true) ↔ ((t &&& gM f nm == t) = true ∧ OK t = true) := by
    intro t
    rw [beq_iff_eq, beq_iff_eq, sub_bits, sub_bits, preR_iff]
    have hb : ∀ i, can.testBit i = ((gM f nm).testBit i && !(decide (i < nm) && !decide (B 116 (7 + i) = -2))) := fun i => by rw [← hcan]; exact canN_bit hM _ nm hm i
    constructor
    · intro h
      refine ⟨fun i hi => ?_, fun a ha => ?_⟩
      · have := h i hi
        rw [hb] at this
        simp only [Bool.and_eq_true] at this
        exact this.1
      · cases hta : t.testBit a with
        | false => simp
        | true =>
          have := h a hta
          rw [hb] at this
          simp [ha] at this
          have hsw : swB B a = false := by unfold swB; rw [(rR_left hr ha).1]; simp [this.2]
          simp [hsw]
    · intro ⟨h1, h2⟩ i hi
      have hM1 := h1 i hi
      rw [hb, hM1]
      rw [gM_bit] at hM1
      simp only [Bool.and_eq_true, decide_eq_true_eq] at hM1
      have := h2 i hM1.1
      rw [hM1.2, hi] at this
      unfold swB at this
      rw [(rR_left hr hM1.1).1] at this
      simp at this
      simp [hM1.1, this]
  have e1 : fI (fun x s => if s &&& gM f nm == s then chGo side (fun t => vFall B nj f nm (chV B t)) OK x s else x) none 128 = fI (rcF B nj f nm side can) none 128 := by
    apply fI_ext
    intro x t _
    unfold rcF
    by_cases hc : (t &&& can == t) = true
    · obtain ⟨a1, a2⟩ := (hiff t).mp hc
      rw [if_pos a1, if_pos hc]
      unfold chG chGo
      cases x with
      | none => simp [a2]
      | some b =>
        simp only [a2, and_true]
        by_cases hp : pc t < pc b
        · by_cases hs : eO (vFall B nj f nm (chV B t)) = side
          · simp [hp, hs]
          · simp [hp, hs]
        · simp [hp]
    · rw [if_neg hc]
      by_cases a1 : (t &&& gM f nm == t) = true
      · have a2 : ¬ OK t = true := fun h => hc ((hiff t).mpr ⟨a1, h⟩)
        rw [if_pos a1]
        unfold chGo
        cases x with
        | none => simp [a2]
        | some b => simp [a2]
      · rw [if_neg a1]
  refine e1.trans ?_
  have ext : ∀ w, fI (rcF B nj f nm side can) none (can + 1 + w) = fI (rcF B nj f nm side can) none (can + 1) := by
    intro w
    induction w with
    | zero => rfl
    | succ w ih =>
      have hgt : ¬ ((can + 1 + w &&& can == can + 1 + w) = true) := by
        intro hh
        have h9 : (can + 1 + w) &&& can ≤ can := Nat.and_le_right
        rw [beq_iff_eq] at hh
        omega
      show rcF B nj f nm side can (fI (rcF B nj f nm side can) none (can + 1 + w)) (can + 1 + w) = _
      rw [ih]
      generalize fI (rcF B nj f nm side can) none (can + 1) = o
      unfold rcF
      rw [if_neg hgt]
  have := ext (128 - (can + 1))
  rw [show can + 1 + (128 - (can + 1)) = 128 by omega] at this
  exact this
theorem A_change (m s w : Int32) : Agr 126 247 [.ref 0, .int m, .int s, .int w, .null] [.ref 84, .int m, .int s, .int w, .null, .null, .null, .null] := by
  refine agrQ ?_
  intro B lm l nm nk nj ns hI
  obtain ⟨hR, hr, -⟩ := hI
  have hm7 := iR_nm hR
  have hn8 := iR_nj hR
  have hk5 := iR_nk hR
  have hns := iR_ns hR
  have n1 : Value.category .null = 1 := rfl
  cases hg : okI nk m with
  | false =>
    refine ⟨-1, ⟨B, lm, ?_, Off.rf B, LK.rf lm⟩, fun im lm1 ho hk => ⟨im, lm1, ?_, ho, hk⟩⟩
    · simp (decide := true) only [QX11_change, Cg_mot hR (Off.rf B), hg, b32_f, gm_cont_i, if_true, if_false]
    · simp (decide := true) only [QX12_change, M_isAsked hR ho, hg, Bool.false_and, b32_f, gm_cont_i, if_true, if_false]
  | true =>
    cases hg2 : okI ns s with
    | false =>
      refine ⟨-1, ⟨B, lm, ?_, Off.rf B, LK.rf lm⟩, fun im lm1 ho hk => ⟨im, lm1, ?_, ho, hk⟩⟩
      · simp (decide := true) only [QX11_change, Cg_mot hR (Off.rf B), Cg_sid hR (Off.rf B), hg, hg2, b32_f, b32_t, gm_cont_i, if_true, if_false]
      · simp (decide := true) only [QX12_change, M_isAsked hR ho, hg, hg2, Bool.and_false, b32_f, gm_cont_i, if_true, if_false]
    | true =>
      cases hg3 : okI 2 w with
      | false =>
        have hw2 : ¬ (0 ≤ w ∧ w ≤ 1) := fun h => by
          have := (okI_le (n := 2) (by decide) w).mp h
          rw [hg3] at this; cases this
        refine ⟨-1, ⟨B, lm, ?_, Off.rf B, LK.rf lm⟩, fun im lm1 ho hk => ⟨im, lm1, ?_, ho, hk⟩⟩
        · rcases okI_f hg3 with h | ⟨h, h2⟩
          · simp (decide := true) only [QX11_change, Cg_mot hR (Off.rf B), Cg_sid hR (Off.rf B), hg, hg2, b32_t, gm_cont_i, if_true, if_false, h]
          · have h3 : ¬ w ≤ 1 := fun hh => hw2 ⟨Int32.not_lt.mp h, hh⟩
            simp (decide := true) only [QX11_change, Cg_mot hR (Off.rf B), Cg_sid hR (Off.rf B), hg, hg2, b32_t, gm_cont_i, if_true, if_false, h, h3]
        · simp (decide := true) only [QX12_change, M_isAsked hR ho, M_in, hg, hg2, Bool.and_self, b32_t, gm_cont_i, if_true, if_false, hw2]
      | true =>
        have hw0 : ¬ w < 0 := (okI_tt hg3).1
        have hw1 : w ≤ 1 := ((okI_le (n := 2) (by decide) w).mpr hg3).2
        have hww : (0 ≤ w ∧ w ≤ 1) := ⟨Int32.not_lt.mp hw0, hw1⟩
        obtain ⟨j, hj, rfl⟩ := okI_t (by omega) hg
        have hM := gM_128 (cSpk B (nI j)) hm7
        obtain ⟨im1, lm1, h1, o1, d1, e1, f1⟩ := C_gatherD hR (Off.rf B) (nI j) lm
        have hpk : ∀ a, a < nm → cSpk B (nI j) a = true → pOk (dV B (B 22 75) a) := fun a ha _ => pOk_eq (dV_cV B a 4 (by decide) (by decide)) (cV_pOk hR hr ha)
        have hpk1 : ∀ a, a < nm → cSpk B (nI j) a = true → pOk (upd (upd (upd (cV B a) 8 (B 22 75)) 4 (B 22 (10 * a + 0))) 9 1) := fun a ha _ => by
          obtain ⟨q, hq, eq⟩ := (rR_side hr ha).2
          have e : upd (upd (upd (cV B a) 8 (B 22 75)) 4 (B 22 (10 * a + 0))) 9 1 4 = nI q := by
            have := (rR_side hr ha).1
            rw [eq] at this
            simp only [upd]
            simp [this]
            simpa using this
          unfold pOk pN
          rw [e, nI_clamp (by omega)]
          exact ⟨rfl, by omega⟩
        obtain ⟨im2, lm2, h2, o2, f2⟩ := C_whoChanges hR o1 d1 lm1 (dV B (B 22 75)) e1 hpk hpk1 s
        rw [eS_map, ch_same hm7 hr s] at h2
        generalize hcan : canN (gM (cSpk B (nI j)) nm) (fun a => !decide (B 116 (7 + a) = -2)) nm = can at h2
        have hc128 : can < 128 := by rw [← hcan]; exact canN_lt hM _ nm
        have hfr : LK lm lm2 := ((f1.mo (K := [73, 74, 75]) (by decide)).tr (f2.mo (by decide))).lk (by decide) (by decide)
        have hMm : ∀ (im : gm_I) (lmx : gm_L), Off B im → ∃ im1 x7', Off B im1 ∧ gm_den 247 0 [.ref 84, .int (nI j), .int s, .int w, .null, .null, .null, .null] [] 128 gm_RF im lmx = gm_den 247 206 [.ref 84, .int (nI j), .int s, .int w, .int (nI can), .int (eO (fI (rcF B nj (cSpk B (nI j)) nm s can) none (can + 1))), .int (nI (can + 1)), x7'] [] 128 gm_RF im1 lmx := by
          intro im lmx ho
          obtain ⟨jm1, c1, p1, r1, -, -⟩ := M_copies hR ho lmx
          have hl1 := M_cho_loop hR hr jm1 p1 (nI j) s w hM .null .null lmx nm 0 (by omega)
          rw [hcan] at hl1
          obtain ⟨jm2, x7', o5, h5⟩ := M_ch_loop (nj := nj) hR hr hj s w hc128 (by
            intro a ha hb
            rw [← hcan, canN_bit hM _ nm hm7] at hb
            simp [ha] at hb
            exact hb.2) lmx (can + 1) 0 jm1 .null (by omega) p1 rfl
          refine ⟨jm2, x7', o5, ?_⟩
          rw [← h5]
          have e0 : gm_den 247 0 [.ref 84, .int (nI j), .int s, .int w, .null, .null, .null, .null] [] 128 gm_RF im lmx = gm_den 247 34 [.ref 84, .int (nI j), .int s, .int w, .int (nI (gM (cSpk B (nI j)) nm)), .int (nI 0), .null, .null] [] 128 gm_RF jm1 lmx := by
            simp (decide := true) only [QX12_change, M_isAsked hR ho, M_in, hg, hg2, Bool.and_self, b32_t, gm_cont_i, gm_cont_v, if_true, if_false, hww, and_self, c1, M_speakers hR p1, sp_eq hm7 hr r1, gm_cat_i, n1]
            rfl
          rw [e0]
          refine Eq.trans hl1 ?_
          simp (decide := true) only [QX12_change, gm_cat_i, n1]
          rfl
        cases hY : fI (rcF B nj (cSpk B (nI j)) nm s can) none (can + 1) with
        | none =>
          rw [hY] at h2
          refine ⟨-2, ⟨im2, lm2, ?_, o2, hfr⟩, fun im lmx ho hk => ?_⟩
          · simp (decide := true) only [QX11_change, Cg_mot hR (Off.rf B), Cg_sid hR (Off.rf B), hg, hg2, b32_t, gm_cont_i, gm_cont_v, if_true, if_false, hw0, hw1, dayB (Off.rf B), h1, h2, eO, gm_cat_i, n1]
          · obtain ⟨jm, x7', o5, h5⟩ := hMm im lmx ho
            rw [hY] at h5
            refine ⟨jm, lmx, ?_, o5, hk⟩
            rw [h5]
            simp (decide := true) only [QX12_change, eO, if_true]
        | some b =>
          rw [hY] at h2
          have hb := rcF_lt hY
          have hne := eO_256 (show b < 256 by omega)
          have hbn : ¬ nI b < 0 := nI_nlt (Nat.zero_le b) (by omega)
          by_cases hw3 : w = 1
          · refine ⟨nI b, ⟨im2, lm2, ?_, o2, hfr⟩, fun im lmx ho hk => ?_⟩
            · simp (decide := true) only [QX11_change, Cg_mot hR (Off.rf B), Cg_sid hR (Off.rf B), hg, hg2, b32_t, gm_cont_i, gm_cont_v, if_true, if_false, hw0, hw1, dayB (Off.rf B), h1, h2, eO, gm_cat_i, n1, hne, hw3]
            · obtain ⟨jm, x7', o5, h5⟩ := hMm im lmx ho
              rw [hY] at h5
              refine ⟨jm, lmx, ?_, o5, hk⟩
              rw [h5]
              simp (decide := true) only [QX12_change, eO, if_true, if_false, hbn, hw3]
          · refine ⟨nI (pc b), ⟨im2, lm2, ?_, o2, hfr⟩, fun im lmx ho hk => ?_⟩
            · simp (decide := true) only [QX11_change, Cg_mot hR (Off.rf B), Cg_sid hR (Off.rf B), hg, hg2, b32_t, gm_cont_i, gm_cont_v, if_true, if_false, hw0, hw1, dayB (Off.rf B), h1, h2, eO, gm_cat_i, n1, hne, hw3, J_bitCount (show b < 256 by omega)]
            · obtain ⟨jm, x7', o5, h5⟩ := hMm im lmx ho
              rw [hY] at h5
              refine ⟨jm, lmx, ?_, o5, hk⟩
              rw [h5]
              simp (decide := true) only [QX12_change, eO, if_true, if_false, hbn, hw3, M_bits jm lmx (show b < 256 by omega), gm_cont_i]
