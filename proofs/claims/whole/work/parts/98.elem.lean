/-! element, over all that stays -/
theorem pa_element {d : Nat} {a b : Int} {m : AMem} {Q : Option AV → AMem → Prop} (hA : InvAl m) (hQ : ∀ x m1, MtX yX12_element cX12_element 3 (some .long) (d + 4) [vr 12 0, vi a, vi b] m1 (fun r m2 => r = some (vl x) ∧ InvAl m2 ∧ m2 2 0 6 ≤ m 2 0 6 + 8) → Q (some (vl x)) m1) : MtX yX11_element cX11_element 3 (some .long) (d + 4) [vr 11 0, vi a, vi b] m Q :=
  pr_element hA.2.2.2.2.2.1 fun x m1 hM => hQ x m1 (MtX_mono hM fun r m2 hq => ⟨hq.1, by rw [hq.2]; exact hA, by rw [hq.2]; omega⟩)
