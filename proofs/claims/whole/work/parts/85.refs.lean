/-! the references as the constructors leave them: written by wip/whole/gen_model0.py -/
def rfM (rf : gm_R) : gm_R := gm_up (gm_zr (gm_up (gm_zr (gm_up (gm_zr (gm_up (gm_zr (gm_up (gm_zr (gm_up (gm_zr (gm_up (gm_zr (gm_up (gm_zr (gm_up (gm_zr (gm_up (gm_zr (gm_up (gm_zr (gm_up (gm_zr (gm_up (gm_zr (gm_up (gm_zr (gm_up (gm_zr (gm_up (gm_zr (gm_up (gm_zr (gm_up (gm_zr (gm_up (gm_zr (gm_up (gm_zr (gm_up (gm_zr (gm_up (gm_zr (gm_up (gm_zr (gm_up (gm_zr (gm_up (gm_zr (gm_up (gm_zr (gm_up (gm_zr (gm_up (gm_zr (gm_up (gm_zr (gm_up (gm_zr (gm_up (gm_zr (gm_up (gm_zr (gm_up (gm_zr (gm_up (gm_zr (gm_up (gm_zr (gm_up (gm_zr (gm_up (gm_zr (gm_up (gm_zr (gm_up (gm_zr (gm_up (gm_zr (gm_up (gm_zr (gm_up (gm_zr (gm_up (gm_zr (rf) 85 1 none) 84 1 (some 85)) 86 1 none) 84 3 (some 86)) 87 1 none) 84 5 (some 87)) 88 1 none) 84 6 (some 88)) 89 1 none) 84 7 (some 89)) 90 1 none) 84 8 (some 90)) 91 1 none) 84 9 (some 91)) 92 1 none) 84 21 (some 92)) 93 1 none) 84 22 (some 93)) 94 1 none) 84 23 (some 94)) 95 1 none) 84 24 (some 95)) 96 1 none) 84 25 (some 96)) 97 1 none) 84 26 (some 97)) 98 1 none) 84 27 (some 98)) 99 1 none) 84 28 (some 99)) 100 1 none) 84 29 (some 100)) 101 1 none) 84 30 (some 101)) 102 1 none) 84 31 (some 102)) 103 1 none) 84 32 (some 103)) 104 1 none) 84 33 (some 104)) 105 1 none) 84 34 (some 105)) 106 1 none) 84 36 (some 106)) 107 1 none) 84 37 (some 107)) 108 1 none) 84 38 (some 108)) 109 1 none) 84 39 (some 109)) 110 1 none) 84 40 (some 110)) 111 1 none) 84 42 (some 111)) 112 1 none) 84 43 (some 112)) 113 1 none) 84 44 (some 113)) 114 1 none) 84 46 (some 114)) 115 1 none) 84 47 (some 115)) 116 1 none) 84 49 (some 116)) 117 1 none) 84 50 (some 117)) 118 1 none) 84 52 (some 118)) 119 1 none) 84 53 (some 119)) 120 1 none) 84 55 (some 120)) 121 1 none) 84 56 (some 121)) 122 1 none) 84 60 (some 122)) 123 1 none) 84 62 (some 123)) 124 1 none) 84 63 (some 124)) 125 1 none) 84 64 (some 125)) 126 1 none) 84 65 (some 126)) 127 1 none) 84 66 (some 127)
def Pn (f : gm_R) : Prop := ∀ o k, (128 ≤ o ∨ 70 ≤ k) → f o k = none
theorem pn_up {f : gm_R} {a b : Nat} {v : Option Nat} (h : Pn f) (ha : a < 128) (hb : b < 70) : Pn (gm_up f a b v) := fun o k hk => by
  show (if o = a then (if k = b then v else f o k) else f o k) = none
  by_cases e : o = a
  · rw [if_pos e, if_neg (by omega)]; exact h o k hk
  · rw [if_neg e]; exact h o k hk
theorem pn_zr {f : gm_R} {a w : Nat} (h : Pn f) : Pn (gm_zr f a w none) := fun o k hk => by
  show (if a ≤ o ∧ o < a + w then none else f o k) = none
  split
  · rfl
  · exact h o k hk
theorem pn_zra {f : gm_R} {a w : Nat} (h : Pn f) (ha : a < 128) (hw : w ≤ 70) : Pn (gm_zra f a w) := fun o k hk => by
  show (if o = a then (if k < w then some (a + 1 + k) else none) else gm_zr f a (1 + w) none o k) = none
  by_cases e : o = a
  · rw [if_pos e, if_neg (by omega)]
  · rw [if_neg e]; exact pn_zr h o k hk
theorem pn_RF : Pn gm_RF := fun o k hk => by
  unfold gm_RF
  split
  all_goals first
    | omega
    | rfl
    | exact if_neg (by omega)
theorem pn_C {f : gm_R} (h : Pn f) : Pn (rfC f) := by
  unfold rfC
  repeat (first | exact h | (refine pn_up ?_ (by decide) (by decide)) | (refine pn_zra ?_ (by decide) (by decide)) | (refine pn_zr ?_))
theorem pn_M {f : gm_R} (h : Pn f) : Pn (rfM f) := by
  unfold rfM
  repeat (first | exact h | (refine pn_up ?_ (by decide) (by decide)) | (refine pn_zra ?_ (by decide) (by decide)) | (refine pn_zr ?_))
def rf00 : gm_R := rfM (gm_zr (rfC (gm_zr (fun _ _ => none) 0 1 none)) 84 1 none)
theorem pn_00 : Pn rf00 := pn_M (pn_zr (pn_C (pn_zr (fun _ _ _ => rfl))))
theorem rf_in : ∀ o : Fin 128, ∀ k : Fin 70, rf00 o.val k.val = gm_RF o.val k.val := by decide +kernel
theorem rf_eq : rf00 = gm_RF := by
  funext o k
  by_cases h : 128 ≤ o ∨ 70 ≤ k
  · rw [pn_00 o k h, pn_RF o k h]
  · exact rf_in ⟨o, by omega⟩ ⟨k, by omega⟩
