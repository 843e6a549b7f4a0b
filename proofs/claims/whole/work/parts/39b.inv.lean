theorem neg_iff {ns : Nat} {x : Int32} (hns : ns ≤ 100) (h : x = -2 ∨ ∃ q, q < ns ∧ x = nI q) : (x < 0 ↔ x = -2) ∧ (0 ≤ x ↔ ¬ x = -2) := by
  rcases h with rfl | ⟨q, hq, rfl⟩
  · exact ⟨by decide, by decide⟩
  · have h0 : (0 : Int32) ≤ nI q := nI_le (a := 0) (Nat.zero_le _) (by omega)
    have h1 : ¬ nI q < 0 := Int32.not_lt.mpr h0
    have h2 : ¬ nI q = -2 := eO_256 (by omega)
    exact ⟨⟨fun h => absurd h h1, fun h => absurd h h2⟩, ⟨fun _ => h2, fun _ => h0⟩⟩
theorem rRel_ok {c r : Nat → Int32} {nm nk ns : Nat} (hns : ns = 2 ∨ ns = 3) (h : rRel c r nm nk ns) : rOk r nm ns := by
  refine ⟨fun a ha => ⟨(rR_side h ha).2, (rR_left h ha).2⟩, fun a ha h49 h56 => ?_⟩
  rcases rR_old h ha with ⟨e, -⟩ | ⟨-, -, g, hg, e⟩
  · rw [e] at h49; exact h49 (by decide)
  · rw [e] at h56
    have : (nI g).toInt = (-1 : Int32).toInt := by rw [h56]
    rw [nI_toInt (by omega)] at this
    have h2 : (-1 : Int32).toInt = -1 := by decide
    omega
theorem rOk_eq {r r' : Nat → Int32} {nm ns : Nat} (hm : nm ≤ 7) (h : rOk r nm ns) (hr : ∀ j, j < 80 → r' j = r j) : rOk r' nm ns := by
  refine ⟨fun a ha => ?_, fun a ha => ?_⟩
  · rw [hr a (by omega), hr (7 + a) (by omega)]; exact h.1 a ha
  · rw [hr (49 + a) (by omega), hr (56 + a) (by omega)]; exact h.2 a ha
