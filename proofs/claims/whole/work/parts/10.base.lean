/-! words for loops and for small numbers -/
theorem nb0 : narrow .boolean (.int 0) = .int 0 := rfl
theorem nb1 : narrow .boolean (.int 1) = .int 1 := rfl
/-- g for the numbers from a on, w times -/
def gl_it {S : Type} (g : Nat → S → S) (a : Nat) : Nat → S → S
  | 0, s => s
  | w + 1, s => g (a + w) (gl_it g a w s)
theorem gl_it_front {S : Type} (g : Nat → S → S) (a w : Nat) (s : S) : gl_it g a (w + 1) s = gl_it g (a + 1) w (g a s) := by
  induction w with
  | zero => rfl
  | succ w ih =>
    show g (a + (w + 1)) (gl_it g a (w + 1) s) = g (a + 1 + w) (gl_it g (a + 1) w (g a s))
    rw [ih, show a + (w + 1) = a + 1 + w by omega]
theorem gl_loop {S R : Type} (F : Nat → S → R) (g : Nat → S → S) (N : Nat) (I : Nat → S → Prop) (hI : ∀ a s, a < N → I a s → I (a + 1) (g a s)) (hs : ∀ a s, a < N → I a s → F a s = F (a + 1) (g a s)) : ∀ w a s, a + w = N → I a s → F a s = F N (gl_it g a w s) ∧ I N (gl_it g a w s) := by
  intro w
  induction w with
  | zero => intro a s h hi; have : a = N := by omega
            subst this; exact ⟨rfl, hi⟩
  | succ w ih =>
    intro a s h hi
    rw [hs a s (by omega) hi, gl_it_front]
    exact ih (a + 1) (g a s) (by omega) (hI a s (by omega) hi)
/-- without an invariant -/
theorem gl_loop0 {S R : Type} (F : Nat → S → R) (g : Nat → S → S) (N : Nat) (hs : ∀ a s, a < N → F a s = F (a + 1) (g a s)) (s : S) : F 0 s = F N (gl_it g 0 N s) :=
  (gl_loop F g N (fun _ _ => True) (fun _ _ _ _ => trivial) (fun a s h _ => hs a s h) N 0 s (by omega) trivial).1
theorem gl_lt {a N : Nat} (h : a < N) (hN : N < 2 ^ 31) : ¬ nI N ≤ nI a := nI_ge h hN
theorem gm_in_nI {a z : Nat} (h : a < z) (hz : z < 2 ^ 31) : gm_in (nI a) z = true := by
  have h1 := nI_in h hz
  unfold gm_in
  simp only [not_or] at h1
  simp [h1.1, h1.2]
theorem nI_lit0 : (0 : Int32) = nI 0 := nI_0.symm
theorem gn_add (a b : Nat) : nI a + nI b = nI (a + b) := nI_add a b
/-- literals as nI -/
theorem gn_lit (n : Nat) : (OfNat.ofNat n : Int32) = nI n := rfl
