/-! what goes on: class and reference side by side -/
def rRel (c r : Nat → Int32) (nm nk ns : Nat) : Prop :=
  (∀ a, a < nm →
    (c (10 * a + 0) = r a ∧ ∃ q, q < ns ∧ r a = nI q) ∧
    (c (10 * a + 1) = r (7 + a) ∧ (r (7 + a) = -2 ∨ ∃ q, q < ns ∧ r (7 + a) = nI q)) ∧
    c (10 * a + 2) = r (14 + a) ∧
    (c (10 * a + 3) = r (21 + a) ∧ (r (21 + a) = -2 ∨ ∃ m, m < nk ∧ r (21 + a) = nI m ∧ r (70 + m) = -2)) ∧
    ((r (21 + a) = -2 ∧ c (10 * a + 4) = -2) ∨ (¬ r (21 + a) = -2 ∧ c (10 * a + 4) = r (28 + a) ∧ ∃ x, x < 4 ∧ r (28 + a) = nI x)) ∧
    (c (10 * a + 5) = r (35 + a) ∧ ∃ p, p ≤ 9 ∧ r (35 + a) = nI p) ∧
    (c (10 * a + 6) = r (42 + a) ∧ (r (42 + a) = -2 ∨ ∃ g, g ≤ 99 ∧ r (42 + a) = nI g)) ∧
    c (10 * a + 7) = r (49 + a) ∧
    ((r (49 + a) = -2 ∧ c (10 * a + 8) = -1) ∨ ((∃ o, o < 7 ∧ r (49 + a) = nI o) ∧ c (10 * a + 8) = r (56 + a) ∧ ∃ g, g ≤ 99 ∧ r (56 + a) = nI g)) ∧
    c (10 * a + 9) = r (63 + a)) ∧
  (∀ m, m < nk → c (70 + m) = r (70 + m) ∧ (r (70 + m) = -2 ∨ ∃ s, s < 3 ∧ r (70 + m) = nI s)) ∧
  c 75 = r 75 ∧ c 76 = r 76
section
variable {c r : Nat → Int32} {nm nk ns : Nat}
theorem rR_side (h : rRel c r nm nk ns) {a : Nat} (ha : a < nm) : c (10 * a + 0) = r a ∧ ∃ q, q < ns ∧ r a = nI q := (h.1 a ha).1
theorem rR_left (h : rRel c r nm nk ns) {a : Nat} (ha : a < nm) : c (10 * a + 1) = r (7 + a) ∧ (r (7 + a) = -2 ∨ ∃ q, q < ns ∧ r (7 + a) = nI q) := (h.1 a ha).2.1
theorem rR_coin (h : rRel c r nm nk ns) {a : Nat} (ha : a < nm) : c (10 * a + 2) = r (14 + a) := (h.1 a ha).2.2.1
theorem rR_top (h : rRel c r nm nk ns) {a : Nat} (ha : a < nm) : c (10 * a + 3) = r (21 + a) ∧ (r (21 + a) = -2 ∨ ∃ m, m < nk ∧ r (21 + a) = nI m ∧ r (70 + m) = -2) := (h.1 a ha).2.2.2.1
theorem rR_man (h : rRel c r nm nk ns) {a : Nat} (ha : a < nm) : (r (21 + a) = -2 ∧ c (10 * a + 4) = -2) ∨ (¬ r (21 + a) = -2 ∧ c (10 * a + 4) = r (28 + a) ∧ ∃ x, x < 4 ∧ r (28 + a) = nI x) := (h.1 a ha).2.2.2.2.1
theorem rR_prs (h : rRel c r nm nk ns) {a : Nat} (ha : a < nm) : c (10 * a + 5) = r (35 + a) ∧ ∃ p, p ≤ 9 ∧ r (35 + a) = nI p := (h.1 a ha).2.2.2.2.2.1
theorem rR_kept (h : rRel c r nm nk ns) {a : Nat} (ha : a < nm) : c (10 * a + 6) = r (42 + a) ∧ (r (42 + a) = -2 ∨ ∃ g, g ≤ 99 ∧ r (42 + a) = nI g) := (h.1 a ha).2.2.2.2.2.2.1
theorem rR_reads (h : rRel c r nm nk ns) {a : Nat} (ha : a < nm) : c (10 * a + 7) = r (49 + a) := (h.1 a ha).2.2.2.2.2.2.2.1
theorem rR_old (h : rRel c r nm nk ns) {a : Nat} (ha : a < nm) : (r (49 + a) = -2 ∧ c (10 * a + 8) = -1) ∨ ((∃ o, o < 7 ∧ r (49 + a) = nI o) ∧ c (10 * a + 8) = r (56 + a) ∧ ∃ g, g ≤ 99 ∧ r (56 + a) = nI g) := (h.1 a ha).2.2.2.2.2.2.2.2.1
theorem rR_slips (h : rRel c r nm nk ns) {a : Nat} (ha : a < nm) : c (10 * a + 9) = r (63 + a) := (h.1 a ha).2.2.2.2.2.2.2.2.2
theorem rR_fell (h : rRel c r nm nk ns) {m : Nat} (hm : m < nk) : c (70 + m) = r (70 + m) ∧ (r (70 + m) = -2 ∨ ∃ s, s < 3 ∧ r (70 + m) = nI s) := h.2.1 m hm
theorem rR_day (h : rRel c r nm nk ns) : c 75 = r 75 := h.2.2.1
theorem rR_paid (h : rRel c r nm nk ns) : c 76 = r 76 := h.2.2.2
end
/-- only the first places count -/
theorem rRel_eq {c c' r r' : Nat → Int32} {nm nk ns : Nat} (hm : nm ≤ 7) (hk : nk ≤ 5) (h : rRel c r nm nk ns) (hc : ∀ j, j < 77 → c' j = c j) (hr : ∀ j, j < 80 → r' j = r j) : rRel c' r' nm nk ns := by
  refine ⟨fun a ha => ?_, fun m hm2 => ?_, ?_, ?_⟩
  · have c0 := hc (10 * a + 0) (by omega)
    have c1 := hc (10 * a + 1) (by omega)
    have c2 := hc (10 * a + 2) (by omega)
    have c3 := hc (10 * a + 3) (by omega)
    have c4 := hc (10 * a + 4) (by omega)
    have c5 := hc (10 * a + 5) (by omega)
    have c6 := hc (10 * a + 6) (by omega)
    have c7 := hc (10 * a + 7) (by omega)
    have c8 := hc (10 * a + 8) (by omega)
    have c9 := hc (10 * a + 9) (by omega)
    have r0 := hr a (by omega)
    have r1 := hr (7 + a) (by omega)
    have r2 := hr (14 + a) (by omega)
    have r3 := hr (21 + a) (by omega)
    have r4 := hr (28 + a) (by omega)
    have r5 := hr (35 + a) (by omega)
    have r6 := hr (42 + a) (by omega)
    have r7 := hr (49 + a) (by omega)
    have r8 := hr (56 + a) (by omega)
    have r9 := hr (63 + a) (by omega)
    refine ⟨?_, ?_, ?_, ⟨?_, ?_⟩, ?_, ?_, ?_, ?_, ?_, ?_⟩
    · rw [c0, r0]; exact rR_side h ha
    · rw [c1, r1]; exact rR_left h ha
    · rw [c2, r2]; exact rR_coin h ha
    · rw [c3, r3]; exact (rR_top h ha).1
    · rw [r3]
      rcases (rR_top h ha).2 with e | ⟨m, e1, e2, e3⟩
      · exact Or.inl e
      · exact Or.inr ⟨m, e1, e2, (hr (70 + m) (by omega)).trans e3⟩
    · rw [c4, r3, r4]; exact rR_man h ha
    · rw [c5, r5]; exact rR_prs h ha
    · rw [c6, r6]; exact rR_kept h ha
    · rw [c7, r7]; exact rR_reads h ha
    · rw [c8, r7, r8]; exact rR_old h ha
    · rw [c9, r9]; exact rR_slips h ha
  · rw [hc (70 + m) (by omega), hr (70 + m) (by omega)]; exact rR_fell h hm2
  · rw [hc 75 (by decide), hr 75 (by decide)]; exact rR_day h
  · rw [hc 76 (by decide), hr 76 (by decide)]; exact rR_paid h
