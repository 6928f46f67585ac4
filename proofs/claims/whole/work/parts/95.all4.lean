/-! the rest of what stays -/
section
variable {d : Nat} {L : Option LnL} {m m2 : AMem} {Q : Option AV → AMem → Prop}
def fpY : List Nat := [2, 3, 4, 11, 300, 301, 302, 303, 400, 401, 5026, 1319, 1320, 1321, 1322, 1323]
theorem InvAl_y {W : List Nat} (h : FrM W m m2) (hW : fpY.all (fun c => !W.contains c) = true) (hH : InvH m2) (hC : InvC m2) (hT : InvT m2) (hM : InvM m2) (hB : InvBd m2) (hS : InvS m2) (hR : ∀ L, LawC m L → LawM m L → InvSr m (pOf m) L → InvSr m2 (pOf m) L) (hA : InvAl m) : InvAl m2 ∧ m2 2 0 6 ≤ m 2 0 6 + 8 := by
  have hd : ∀ c ∈ fpY, c ∉ W := fun c hc q => by
    have := List.all_eq_true.mp hW c hc
    simp at this
    exact this q
  obtain ⟨a1, a2, a3, a4, a5, a6, a7, a8, L, b1, b2, b3⟩ := hA
  have e2 : m2 2 0 = m 2 0 := FrM_f h (by decide) (hd _ (by decide))
  have e11 : m2 4 0 = m 4 0 := FrM_f h (by decide) (hd _ (by decide))
  have hp : pOf m2 = pOf m := pOf_fr h fun c hc => hd c ((by decide : ∀ c ∈ [2, 300, 301, 302, 303], c ∈ fpY) c hc)
  refine ⟨⟨hH, hC, hT, hM, hB, hS, ?_, ?_, L, LawC_fr h (hd _ (by decide)) (hd _ (by decide)) (hd _ (by decide)) (hd _ (by decide)) b1, LawM_fr h (fun c hc => hd c ((by decide : ∀ c ∈ [5026, 1319, 1320, 1321, 1322, 1323], c ∈ fpY) c hc)) b2, ?_⟩, ?_⟩
  · unfold InvD; rw [e2, e11]; exact a7
  · rw [e2]; exact a8
  · rw [hp]; exact hR L b1 b2 b3
  · rw [e2]; omega
theorem pa_allIn (hA : InvAl m) (hst : m 2 0 6 ≤ 100000) (hQ : ∀ x m1, MtX yX12_allIn cX12_allIn 3 (some .int) (d + 3) [vr 12 0] m1 (fun r m2 => r = some (vi x) ∧ InvAl m2 ∧ m2 2 0 6 ≤ m 2 0 6 + 8) → Q (some (vi x)) m1) : MtX yX11_allIn cX11_allIn 3 (some .int) (d + 3) [vr 11 0] m Q := by
  have hA0 := hA
  obtain ⟨a1, a2, a3, a4, a5, a6, a7, a8, _⟩ := hA
  exact pr_allIn a1 ⟨a8, hst⟩ fun x m1 hM => hQ x m1 (MtX_mono hM fun r m2 ⟨q1, q2, q3, q4⟩ => ⟨q1, InvAl_h q3 (by decide) q4 q2 (InvC_sm (Sm_of q3 (by decide)) a2) (InvM_sm (Sm_of q3 (by decide)) a4) hA0⟩)
theorem pa_back (hA : InvAl m) (hst : m 2 0 6 ≤ 100000) (hQ : ∀ x m1, MtX yX12_back cX12_back 2 (some .int) (d + 3) [vr 12 0] m1 (fun r m2 => r = some (vi x) ∧ InvAl m2 ∧ m2 2 0 6 ≤ m 2 0 6 + 8) → Q (some (vi x)) m1) : MtX yX11_back cX11_back 1 (some .int) (d + 3) [vr 11 0] m Q := by
  have hA0 := hA
  obtain ⟨a1, a2, a3, a4, a5, a6, a7, a8, _⟩ := hA
  exact pr_back a1 a4 ⟨a8, hst⟩ fun x m1 hM => hQ x m1 (MtX_mono hM fun r m2 ⟨q1, q2, q3, q4, q5⟩ => ⟨q1, InvAl_h q4 (by decide) q5 q2 (InvC_sm (Sm_of q4 (by decide)) a2) q3 hA0⟩)
theorem pa_go {a : Int} (hA : InvAl m) (hst : m 2 0 6 ≤ 100000) (hQ : ∀ x m1, MtX yX12_go cX12_go 4 (some .int) (d + 9) [vr 12 0, vi a] m1 (fun r m2 => r = some (vi x) ∧ InvAl m2 ∧ m2 2 0 6 ≤ m 2 0 6 + 8) → Q (some (vi x)) m1) : MtX yX11_go cX11_go 3 (some .int) (d + 9) [vr 11 0, vi a] m Q := by
  have hA0 := hA
  obtain ⟨a1, a2, a3, a4, a5, a6, a7, a8, L, b1, b2, _⟩ := hA
  exact pr_go a6 a1 a4 b1 b2 ⟨a8, hst⟩ fun x m1 hM => hQ x m1 (MtX_mono hM fun r m2 ⟨q1, q2, q3, q4, q5⟩ => ⟨q1, by
    rcases q5 with g | g
    · have := InvAl_fr g (by decide) hA0
      exact ⟨this.1, by omega⟩
    · exact InvAl_h q4 (by decide) (Or.inr g) q2 (InvC_sm (Sm_of q4 (by decide)) a2) q3 hA0⟩)
theorem pa_defenders {a i n : Int} (hr : ri i) (hA : InvAl m) (hst : m 2 0 6 ≤ 100000) (hQ : ∀ x m1, MtX yX12_defenders cX12_defenders 8 (some .int) (d + 4) [vr 12 0, vi a, vi i, vi n] m1 (fun r m2 => r = some (vi x) ∧ InvAl m2 ∧ m2 2 0 6 ≤ m 2 0 6 + 8) → Q (some (vi x)) m1) : MtX yX11_defenders cX11_defenders 5 (some .int) (d + 4) [vr 11 0, vi a, vi i, vi n] m Q := by
  have hA0 := hA
  obtain ⟨a1, a2, a3, a4, a5, a6, a7, a8, _⟩ := hA
  exact pr_defenders hr a6 a1 ⟨a8, hst⟩ fun x m1 hM => hQ x m1 (MtX_mono hM fun r m2 ⟨q1, q2, q3, q4, q5⟩ => ⟨q1, InvAl_h q3 (by decide) q5 q2 (InvC_n q3 (by decide) q4 a2) (InvM_1 q3 (by decide) q4 a4) hA0⟩)
theorem pa_image (hA : InvAl m) (hQ : ∀ x m1, MtX yX12_image cX12_image 2 (some .int) (d + 3) [vr 12 0] m1 (fun r m2 => r = some (vi x) ∧ InvAl m2 ∧ m2 2 0 6 ≤ m 2 0 6 + 8) → Q (some (vi x)) m1) : MtX yX11_image cX11_image 1 (some .int) (d + 3) [vr 11 0] m Q := by
  have hA0 := hA
  obtain ⟨a1, a2, a3, a4, a5, a6, a7, a8, _⟩ := hA
  exact pr_image a1 a4 fun x m1 hM => hQ x m1 (MtX_mono hM fun r m2 ⟨q1, q2, q3⟩ => ⟨q1, InvAl_y q3 (by decide) (InvH_sm (Sm_of q3 (by decide)) a1) (InvC_sm (Sm_of q3 (by decide)) a2) (InvT_sm (Sm_of q3 (by decide)) a3) q2 (InvBd_sm (Sm_of q3 (by decide)) a5) (InvS_sm (Sm_of q3 (by decide)) a6) (fun _ _ _ g => InvSr_fr q3 (by decide) g) hA0⟩)
theorem pa_body {a : Int} (hA : InvAl m) (hQ : ∀ x m1, MtX yX12_body cX12_body 2 (some .int) (d + 3) [vr 12 0, vi a] m1 (fun r m2 => r = some (vi x) ∧ InvAl m2 ∧ m2 2 0 6 ≤ m 2 0 6 + 8) → Q (some (vi x)) m1) : MtX yX11_body cX11_body 2 (some .int) (d + 3) [vr 11 0, vi a] m Q := by
  have hA0 := hA
  obtain ⟨a1, a2, a3, a4, a5, a6, a7, a8, _⟩ := hA
  exact pr_body a5 fun x m1 hM => hQ x m1 (MtX_mono hM fun r m2 ⟨q1, q2, q4, q3⟩ => ⟨q1, InvAl_y q3 (by decide) (InvH_sm (Sm_of q3 (by decide)) a1) (InvC_sm (Sm_of q3 (by decide)) a2) (InvT_sm (Sm_of q3 (by decide)) a3) (InvM_sm (Sm_of q3 (by decide)) a4) q2 (InvS_55 q3 (by decide) q4 a6) (fun _ _ _ g => InvSr_fr q3 (by decide) g) hA0⟩)
theorem pa_act {n a x : Int} (hA : InvAl m) (hQ : ∀ y m1, MtX yX12_act cX12_act 4 (some .int) (d + 15) [vr 12 0, vi n, vi a, vi x] m1 (fun r m2 => r = some (vi y) ∧ InvAl m2 ∧ m2 2 0 6 ≤ m 2 0 6 + 8) → Q (some (vi y)) m1) : MtX yX11_act cX11_act 4 (some .int) (d + 15) [vr 11 0, vi n, vi a, vi x] m Q := by
  have hA0 := hA
  obtain ⟨a1, a2, a3, a4, a5, a6, a7, a8, _⟩ := hA
  exact pr_act a5 fun x m1 hM => hQ x m1 (MtX_mono hM fun r m2 ⟨q1, q2, q3⟩ => ⟨q1, InvAl_y q3 (by decide) (InvH_sm (Sm_of q3 (by decide)) a1) (InvC_sm (Sm_of q3 (by decide)) a2) (InvT_sm (Sm_of q3 (by decide)) a3) (InvM_sm (Sm_of q3 (by decide)) a4) q2 (InvS_sm (Sm_of q3 (by decide)) a6) (fun _ _ _ g => InvSr_fr q3 (by decide) g) hA0⟩)
theorem pa_keep {a b : Int} (hA : InvAl m) (hQ : ∀ x m1, MtX yX12_keep cX12_keep 3 (some .int) (d + 4) [vr 12 0, vi a, vi b] m1 (fun r m2 => r = some (vi x) ∧ InvAl m2 ∧ m2 2 0 6 ≤ m 2 0 6 + 8) → Q (some (vi x)) m1) : MtX yX11_keep cX11_keep 3 (some .int) (d + 4) [vr 11 0, vi a, vi b] m Q :=
  pa_S (W := wKeep) (by decide) hA (fun g => pr_keep hA.2.2.2.2.2.1 hA.2.2.2.2.1 g) hQ
theorem sr_cg {L L2 : Option LnL} {p : StR} (h : L = L2) (hS : InvSr m p L) : InvSr m p L2 := h ▸ hS
theorem InvAl_s {W : List Nat} (h : FrM W m m2) (hW : (fpY ++ fpH ++ fpC ++ fpT ++ fpM ++ fpB ++ fpS).all (fun c => !W.contains c) = true) (hL : LawC m L) (hM : LawM m L) (hS : InvSr m2 (pOf m) L) (hA : InvAl m) : InvAl m2 ∧ m2 2 0 6 ≤ m 2 0 6 + 8 := by
  have hd : ∀ c ∈ fpY ++ fpH ++ fpC ++ fpT ++ fpM ++ fpB ++ fpS, c ∉ W := fun c hc q => by
    have := List.all_eq_true.mp hW c hc
    simp at this
    exact this q
  have sm : ∀ F : List Nat, (∀ c ∈ F, c ∈ fpY ++ fpH ++ fpC ++ fpT ++ fpM ++ fpB ++ fpS) → Sm F m m2 := fun F hF k j i hc => h k j i (hd _ (hF _ hc))
  obtain ⟨a1, a2, a3, a4, a5, a6, a7, a8, _⟩ := hA
  have e2 : m2 2 0 = m 2 0 := FrM_f h (by decide) (hd _ (by decide))
  have e11 : m2 4 0 = m 4 0 := FrM_f h (by decide) (hd _ (by decide))
  have hp : pOf m2 = pOf m := pOf_fr h fun c hc => hd c ((by decide : ∀ c ∈ [2, 300, 301, 302, 303], c ∈ fpY ++ fpH ++ fpC ++ fpT ++ fpM ++ fpB ++ fpS) c hc)
  refine ⟨⟨InvH_sm (sm _ (by decide)) a1, InvC_sm (sm _ (by decide)) a2, InvT_sm (sm _ (by decide)) a3, InvM_sm (sm _ (by decide)) a4, InvBd_sm (sm _ (by decide)) a5, InvS_sm (sm _ (by decide)) a6, ?_, ?_, L, LawC_fr h (hd _ (by decide)) (hd _ (by decide)) (hd _ (by decide)) (hd _ (by decide)) hL, LawM_fr h (fun c hc => hd c ((by decide : ∀ c ∈ [5026, 1319, 1320, 1321, 1322, 1323], c ∈ fpY ++ fpH ++ fpC ++ fpT ++ fpM ++ fpB ++ fpS) c hc)) hM, ?_⟩, ?_⟩
  · unfold InvD; rw [e2, e11]; exact a7
  · rw [e2]; exact a8
  · rw [hp]; exact hS
  · rw [e2]; omega
theorem pa_best {a b : Int} (hA : InvAl m) (hQ : ∀ x m1, MtX yX12_best cX12_best 5 (some .int) (d + 18) [vr 12 0, vi a, vi b] m1 (fun r m2 => r = some (vi x) ∧ InvAl m2 ∧ m2 2 0 6 ≤ m 2 0 6 + 8) → Q (some (vi x)) m1) : MtX yX11_best cX11_best 3 (some .int) (d + 18) [vr 11 0, vi a, vi b] m Q := by
  have hA0 := hA
  obtain ⟨a1, a2, a3, a4, a5, a6, a7, a8, L, b1, b2, b3⟩ := hA
  exact pr_best a1 b1 b2 b3 fun x m1 hM => hQ x m1 (MtX_mono hM fun r m2 ⟨q1, q2, q3⟩ => ⟨q1, InvAl_s q3 (by decide) b1 b2 q2 hA0⟩)
theorem pa_touch {a b : Int} (hA : InvAl m) (hQ : ∀ x m1, MtX yX12_touch cX12_touch 4 (some .int) (d + 18) [vr 12 0, vi a, vi b] m1 (fun r m2 => r = some (vi x) ∧ InvAl m2 ∧ m2 2 0 6 ≤ m 2 0 6 + 8) → Q (some (vi x)) m1) : MtX yX11_touch cX11_touch 4 (some .int) (d + 18) [vr 11 0, vi a, vi b] m Q := by
  have hA0 := hA
  obtain ⟨a1, a2, a3, a4, a5, a6, a7, a8, L, b1, b2, b3⟩ := hA
  exact pr_touch a1 b1 b2 b3 fun x m1 hM => hQ x m1 (MtX_mono hM fun r m2 ⟨q1, q2, q3⟩ => ⟨q1, InvAl_s q3 (by decide) b1 b2 q2 hA0⟩)
end
