/-! every question, over all that stays -/
section
variable {d : Nat} {L : Option LnL} {m m2 : AMem} {Q : Option AV → AMem → Prop}
theorem pa_where {a n w : Int} (hA : InvAl m) (hQ : ∀ x m1, MtX yX12_where cX12_where 4 (some .int) (d + 9) [vr 12 0, vi a, vi n, vi w] m1 (fun r m2 => r = some (vi x) ∧ InvAl m2 ∧ m2 2 0 6 ≤ m 2 0 6 + 8) → Q (some (vi x)) m1) : MtX yX11_where cX11_where 5 (some .int) (d + 9) [vr 11 0, vi a, vi n, vi w] m Q := by
  have hA0 := hA
  obtain ⟨a1, a2, a3, a4, a5, a6, a7, a8, L, b1, b2, b3⟩ := hA
  exact pa_ask (W := wRd) (by decide) hA0 (fun g => pr_where a6 a1 b1 b2 g) hQ
theorem pa_needs {a : Int} (hA : InvAl m) (hQ : ∀ x m1, MtX yX12_needs cX12_needs 3 (some .int) (d + 9) [vr 12 0, vi a] m1 (fun r m2 => r = some (vi x) ∧ InvAl m2 ∧ m2 2 0 6 ≤ m 2 0 6 + 8) → Q (some (vi x)) m1) : MtX yX11_needs cX11_needs 3 (some .int) (d + 9) [vr 11 0, vi a] m Q := by
  have hA0 := hA
  obtain ⟨a1, a2, a3, a4, a5, a6, a7, a8, L, b1, b2, b3⟩ := hA
  exact pa_ask (W := wRd) (by decide) hA0 (fun g => pr_needs a6 a1 b1 b2 g) hQ
theorem pa_mightHe {a : Int} (hA : InvAl m) (hQ : ∀ x m1, MtX yX12_mightHe cX12_mightHe 5 (some .int) (d + 9) [vr 12 0, vi a] m1 (fun r m2 => r = some (vi x) ∧ InvAl m2 ∧ m2 2 0 6 ≤ m 2 0 6 + 8) → Q (some (vi x)) m1) : MtX yX11_mightHe cX11_mightHe 3 (some .int) (d + 9) [vr 11 0, vi a] m Q := by
  have hA0 := hA
  obtain ⟨a1, a2, a3, a4, a5, a6, a7, a8, L, b1, b2, b3⟩ := hA
  exact pa_ask (W := wRd) (by decide) hA0 (fun g => pr_mightHe a6 a1 b1 b2 g) hQ
theorem pa_spared {a : Int} (hA : InvAl m) (hQ : ∀ x m1, MtX yX12_spared cX12_spared 4 (some .int) (d + 9) [vr 12 0, vi a] m1 (fun r m2 => r = some (vi x) ∧ InvAl m2 ∧ m2 2 0 6 ≤ m 2 0 6 + 8) → Q (some (vi x)) m1) : MtX yX11_spared cX11_spared 5 (some .int) (d + 9) [vr 11 0, vi a] m Q := by
  have hA0 := hA
  obtain ⟨a1, a2, a3, a4, a5, a6, a7, a8, L, b1, b2, b3⟩ := hA
  exact pa_ask (W := wRd) (by decide) hA0 (fun g => pr_spared a6 a1 b1 b2 g) hQ
theorem pa_stand {a i b : Int} (hA : InvAl m) (hQ : ∀ x m1, MtX yX12_stand cX12_stand 10 (some .int) (d + 9) [vr 12 0, vi a, vi i, vi b] m1 (fun r m2 => r = some (vi x) ∧ InvAl m2 ∧ m2 2 0 6 ≤ m 2 0 6 + 8) → Q (some (vi x)) m1) : MtX yX11_stand cX11_stand 10 (some .int) (d + 9) [vr 11 0, vi a, vi i, vi b] m Q := by
  have hA0 := hA
  obtain ⟨a1, a2, a3, a4, a5, a6, a7, a8, L, b1, b2, b3⟩ := hA
  exact pa_ask (W := wRd) (by decide) hA0 (fun g => pr_stand a6 a1 b1 b2 g) hQ
theorem pa_drawn {z0 n w : Int} (hA : InvAl m) (hQ : ∀ x m1, MtX yX12_drawn cX12_drawn 8 (some .int) (d + 8) [vr 12 0, vi z0, vi n, vi w] m1 (fun r m2 => r = some (vi x) ∧ InvAl m2 ∧ m2 2 0 6 ≤ m 2 0 6 + 8) → Q (some (vi x)) m1) : MtX yX11_drawn cX11_drawn 8 (some .int) (d + 8) [vr 11 0, vi z0, vi n, vi w] m Q := by
  have hA0 := hA
  obtain ⟨a1, a2, a3, a4, a5, a6, a7, a8, L, b1, b2, b3⟩ := hA
  exact pa_ask (W := wRd) (by decide) hA0 (fun g => pr_drawn a1 b1 b2 g) hQ
theorem pa_third {a b e c : Int} (hA : InvAl m) (hQ : ∀ x m1, MtX yX12_third cX12_third 5 (some .int) (d + 6) [vr 12 0, vi a, vi b, vi e, vi c] m1 (fun r m2 => r = some (vi x) ∧ InvAl m2 ∧ m2 2 0 6 ≤ m 2 0 6 + 8) → Q (some (vi x)) m1) : MtX yX11_third cX11_third 5 (some .int) (d + 6) [vr 11 0, vi a, vi b, vi e, vi c] m Q := by
  have hA0 := hA
  obtain ⟨a1, a2, a3, a4, a5, a6, a7, a8, L, b1, b2, b3⟩ := hA
  exact pa_ask (W := wOx) (by decide) hA0 (fun g => pr_third a1 g) hQ
theorem pa_bench {a z w k : Int} (hA : InvAl m) (hQ : ∀ x m1, MtX yX12_bench cX12_bench 5 (some .int) (d + 5) [vr 12 0, vi a, vi z, vi w, vi k] m1 (fun r m2 => r = some (vi x) ∧ InvAl m2 ∧ m2 2 0 6 ≤ m 2 0 6 + 8) → Q (some (vi x)) m1) : MtX yX11_bench cX11_bench 6 (some .int) (d + 5) [vr 11 0, vi a, vi z, vi w, vi k] m Q := by
  have hA0 := hA
  obtain ⟨a1, a2, a3, a4, a5, a6, a7, a8, L, b1, b2, b3⟩ := hA
  exact pa_ask (W := wJg) (by decide) hA0 (fun g => pr_bench a6 g) hQ
theorem pa_does {a rc b : Int} (hr : ri rc) (hA : InvAl m) (hQ : ∀ x m1, MtX yX12_does cX12_does 4 (some .int) (d + 6) [vr 12 0, vi a, vi rc, vi b] m1 (fun r m2 => r = some (vi x) ∧ InvAl m2 ∧ m2 2 0 6 ≤ m 2 0 6 + 8) → Q (some (vi x)) m1) : MtX yX11_does cX11_does 4 (some .int) (d + 6) [vr 11 0, vi a, vi rc, vi b] m Q := by
  have hA0 := hA
  obtain ⟨a1, a2, a3, a4, a5, a6, a7, a8, L, b1, b2, b3⟩ := hA
  exact pa_ask (W := wRd) (by decide) hA0 (fun g => pr_does hr a1 b1 b2 g) hQ
theorem pa_of {n w : Int} (hA : InvAl m) (hQ : ∀ x m1, MtX yX12_of cX12_of 3 (some .int) (d + 4) [vr 12 0, vi n, vi w] m1 (fun r m2 => r = some (vi x) ∧ InvAl m2 ∧ m2 2 0 6 ≤ m 2 0 6 + 8) → Q (some (vi x)) m1) : MtX yX11_of cX11_of 3 (some .int) (d + 4) [vr 11 0, vi n, vi w] m Q := by
  have hA0 := hA
  obtain ⟨a1, a2, a3, a4, a5, a6, a7, a8, L, b1, b2, b3⟩ := hA
  exact pa_eq hA0 (fun g => pr_of a1 g) hQ
theorem pa_line {w : Int} (hA : InvAl m) (hQ : ∀ x m1, MtX yX12_line cX12_line 6 (some .int) (d + 6) [vr 12 0, vi w] m1 (fun r m2 => r = some (vi x) ∧ InvAl m2 ∧ m2 2 0 6 ≤ m 2 0 6 + 8) → Q (some (vi x)) m1) : MtX yX11_line cX11_line 2 (some .int) (d + 6) [vr 11 0, vi w] m Q := by
  have hA0 := hA
  obtain ⟨a1, a2, a3, a4, a5, a6, a7, a8, L, b1, b2, b3⟩ := hA
  exact pa_eq hA0 (fun g => pr_line a1 g) hQ
theorem pa_led {a : Int} (hA : InvAl m) (hQ : ∀ x m1, MtX yX12_led cX12_led 2 (some .int) (d + 3) [vr 12 0, vi a] m1 (fun r m2 => r = some (vi x) ∧ InvAl m2 ∧ m2 2 0 6 ≤ m 2 0 6 + 8) → Q (some (vi x)) m1) : MtX yX11_led cX11_led 2 (some .int) (d + 3) [vr 11 0, vi a] m Q := by
  have hA0 := hA
  obtain ⟨a1, a2, a3, a4, a5, a6, a7, a8, L, b1, b2, b3⟩ := hA
  exact pa_eq hA0 (fun g => pr_led a4 g) hQ
theorem pa_trace {a : Int} (hA : InvAl m) (hQ : ∀ x m1, MtX yX12_trace cX12_trace 2 (some .int) (d + 3) [vr 12 0, vi a] m1 (fun r m2 => r = some (vi x) ∧ InvAl m2 ∧ m2 2 0 6 ≤ m 2 0 6 + 8) → Q (some (vi x)) m1) : MtX yX11_trace cX11_trace 2 (some .int) (d + 3) [vr 11 0, vi a] m Q := by
  have hA0 := hA
  obtain ⟨a1, a2, a3, a4, a5, a6, a7, a8, L, b1, b2, b3⟩ := hA
  exact pa_eq hA0 (fun g => pr_trace a5 g) hQ
theorem pa_count {w : Int} (hA : InvAl m) (hQ : ∀ x m1, MtX yX12_count cX12_count 4 (some .int) (d + 3) [vr 12 0, vi w] m1 (fun r m2 => r = some (vi x) ∧ InvAl m2 ∧ m2 2 0 6 ≤ m 2 0 6 + 8) → Q (some (vi x)) m1) : MtX yX11_count cX11_count 2 (some .int) (d + 3) [vr 11 0, vi w] m Q := by
  have hA0 := hA
  obtain ⟨a1, a2, a3, a4, a5, a6, a7, a8, L, b1, b2, b3⟩ := hA
  exact pa_eq hA0 (fun g => pr_count a1 a2 a3 a5 g) hQ
theorem pa_taken {a q : Int} (hA : InvAl m) (hQ : ∀ x m1, MtX yX12_taken cX12_taken 3 (some .int) (d + 3) [vr 12 0, vi a, vi q] m1 (fun r m2 => r = some (vi x) ∧ InvAl m2 ∧ m2 2 0 6 ≤ m 2 0 6 + 8) → Q (some (vi x)) m1) : MtX yX11_taken cX11_taken 5 (some .int) (d + 3) [vr 11 0, vi a, vi q] m Q := by
  have hA0 := hA
  obtain ⟨a1, a2, a3, a4, a5, a6, a7, a8, L, b1, b2, b3⟩ := hA
  exact pa_eq hA0 (fun g => pr_taken a6 a5 g) hQ
theorem pa_row {a b n : Int} (hA : InvAl m) (hQ : ∀ x m1, MtX yX12_row cX12_row 5 (some .int) (d + 4) [vr 12 0, vi a, vi b, vi n] m1 (fun r m2 => r = some (vi x) ∧ InvAl m2 ∧ m2 2 0 6 ≤ m 2 0 6 + 8) → Q (some (vi x)) m1) : MtX yX11_row cX11_row 4 (some .int) (d + 4) [vr 11 0, vi a, vi b, vi n] m Q := by
  have hA0 := hA
  obtain ⟨a1, a2, a3, a4, a5, a6, a7, a8, L, b1, b2, b3⟩ := hA
  exact pa_S (W := wRow) (by decide) hA0 (fun g => pr_row a6 g) hQ
theorem pa_shift {a i b j n : Int} (hA : InvAl m) (hQ : ∀ x m1, MtX yX12_shift cX12_shift 7 (some .int) (d + 4) [vr 12 0, vi a, vi i, vi b, vi j, vi n] m1 (fun r m2 => r = some (vi x) ∧ InvAl m2 ∧ m2 2 0 6 ≤ m 2 0 6 + 8) → Q (some (vi x)) m1) : MtX yX11_shift cX11_shift 8 (some .int) (d + 4) [vr 11 0, vi a, vi i, vi b, vi j, vi n] m Q := by
  have hA0 := hA
  obtain ⟨a1, a2, a3, a4, a5, a6, a7, a8, L, b1, b2, b3⟩ := hA
  exact pa_S (W := wShf) (by decide) hA0 (fun g => pr_shift a6 g) hQ
end
