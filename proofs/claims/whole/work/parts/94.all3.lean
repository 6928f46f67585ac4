/-! the half, the match and the bodies move -/
section
variable {d : Nat} {L : Option LnL} {m m2 : AMem} {Q : Option AV → AMem → Prop}
def fpN : List Nat := [0, 4, 8, 10, 11, 100, 101, 3, 400, 401, 902, 1100, 500, 1313, 1319, 1320, 1321, 1322, 1323, 1356, 1358, 1359, 1360, 1361, 5014, 5026, 5055, 5057]
theorem InvAl_h {W : List Nat} (h : FrM W m m2) (hW : fpN.all (fun c => !W.contains c) = true) (hP : StP m m2) (hH : InvH m2) (hC : InvC m2) (hM : InvM m2) (hA : InvAl m) : InvAl m2 ∧ m2 2 0 6 ≤ m 2 0 6 + 8 := by
  rcases hP with rfl | hB
  · exact ⟨hA, by omega⟩
  have hd : ∀ c ∈ fpN, c ∉ W := fun c hc q => by
    have := List.all_eq_true.mp hW c hc
    simp at this
    exact this q
  have sm : ∀ F : List Nat, (∀ c ∈ F, c ∈ fpN) → Sm F m m2 := fun F hF k j i hc => h k j i (hd _ (hF _ hc))
  obtain ⟨a1, a2, a3, a4, a5, a6, a7, a8, L, b1, b2, b3⟩ := hA
  have e11 : m2 4 0 = m 4 0 := FrM_f h (by decide) (hd _ (by decide))
  have e8 : m2 8 0 = m 8 0 := FrM_f h (by decide) (hd _ (by decide))
  have b := hB.1
  have c := hB.2.1
  refine ⟨⟨hH, hC, InvT_sm (sm _ (by decide)) a3, hM, InvBd_sm (sm _ (by decide)) a5, InvS_sm (sm _ (by decide)) a6, ?_, by omega, L, LawC_7 h (fun c hc => hd c ((by decide : ∀ c ∈ [3, 400, 401], c ∈ fpN) c hc)) hB.2.2 b1, LawM_fr h (fun c hc => hd c ((by decide : ∀ c ∈ [5026, 1319, 1320, 1321, 1322, 1323], c ∈ fpN) c hc)) b2, InvSr_b hB.1 (by rw [e8]) b3⟩, hB.2.1⟩
  unfold InvD
  rw [e11, hB.2.2]
  exact a7
theorem pa_defender {rc s : Int} (hr : ri rc) (hA : InvAl m) (hst : m 2 0 6 ≤ 100000) (hQ : ∀ x m1, MtX yX12_defender cX12_defender 3 (some .int) (d + 3) [vr 12 0, vi rc, vi s] m1 (fun r m2 => r = some (vi x) ∧ InvAl m2 ∧ m2 2 0 6 ≤ m 2 0 6 + 8) → Q (some (vi x)) m1) : MtX yX11_defender cX11_defender 3 (some .int) (d + 3) [vr 11 0, vi rc, vi s] m Q := by
  have hA0 := hA
  obtain ⟨a1, a2, a3, a4, a5, a6, a7, a8, _⟩ := hA
  exact pr_defender hr a1 ⟨a8, hst⟩ fun x m1 hM => hQ x m1 (MtX_mono hM fun r m2 ⟨q1, q2, q3, q4, q5⟩ => ⟨q1, InvAl_h q3 (by decide) q5 q2 (InvC_n q3 (by decide) q4 a2) (InvM_1 q3 (by decide) q4 a4) hA0⟩)
theorem pa_mend {n w v : Int} (hA : InvAl m) (hst : m 2 0 6 ≤ 100000) (hQ : ∀ x m1, MtX yX12_mend cX12_mend 4 (some .int) (d + 4) [vr 12 0, vi n, vi w, vi v] m1 (fun r m2 => r = some (vi x) ∧ InvAl m2 ∧ m2 2 0 6 ≤ m 2 0 6 + 8) → Q (some (vi x)) m1) : MtX yX11_mend cX11_mend 5 (some .int) (d + 4) [vr 11 0, vi n, vi w, vi v] m Q := by
  have hA0 := hA
  obtain ⟨a1, a2, a3, a4, a5, a6, a7, a8, _⟩ := hA
  exact pr_mend a1 a2 ⟨a8, hst⟩ fun x m1 hM => hQ x m1 (MtX_mono hM fun r m2 ⟨q1, q2, q3, q4, q5, q6⟩ => ⟨q1, InvAl_h q4 (by decide) q6 q2 q3 (InvM_1 q4 (by decide) (by omega) a4) hA0⟩)
theorem pa_undo (hA : InvAl m) (hst : m 2 0 6 ≤ 100000) (hQ : ∀ x m1, MtX yX12_undo cX12_undo 1 (some .int) (d + 3) [vr 12 0] m1 (fun r m2 => r = some (vi x) ∧ InvAl m2 ∧ m2 2 0 6 ≤ m 2 0 6 + 8) → Q (some (vi x)) m1) : MtX yX11_undo cX11_undo 1 (some .int) (d + 3) [vr 11 0] m Q := by
  have hA0 := hA
  obtain ⟨a1, a2, a3, a4, a5, a6, a7, a8, _⟩ := hA
  exact pr_undo a1 a2 ⟨a8, hst⟩ fun x m1 hM => hQ x m1 (MtX_mono hM fun r m2 ⟨q1, q2, q3, q4, q5, q6⟩ => ⟨q1, InvAl_h q4 (by decide) q6 q2 q3 (InvM_1 q4 (by decide) (by omega) a4) hA0⟩)
theorem pa_redo (hA : InvAl m) (hst : m 2 0 6 ≤ 100000) (hQ : ∀ x m1, MtX yX12_redo cX12_redo 1 (some .int) (d + 3) [vr 12 0] m1 (fun r m2 => r = some (vi x) ∧ InvAl m2 ∧ m2 2 0 6 ≤ m 2 0 6 + 8) → Q (some (vi x)) m1) : MtX yX11_redo cX11_redo 1 (some .int) (d + 3) [vr 11 0] m Q := by
  have hA0 := hA
  obtain ⟨a1, a2, a3, a4, a5, a6, a7, a8, _⟩ := hA
  exact pr_redo a1 a2 ⟨a8, hst⟩ fun x m1 hM => hQ x m1 (MtX_mono hM fun r m2 ⟨q1, q2, q3, q4, q5, q6⟩ => ⟨q1, InvAl_h q4 (by decide) q6 q2 q3 (InvM_1 q4 (by decide) (by omega) a4) hA0⟩)
end
