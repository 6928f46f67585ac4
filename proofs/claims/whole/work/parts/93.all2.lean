/-! more of what stays -/
section
variable {d : Nat} {L : Option LnL} {m m2 : AMem} {Q : Option AV → AMem → Prop}
theorem InvM_1 {W : List Nat} (h : FrM W m m2) (hd : ∀ c ∈ [5051, 5052, 5, 600, 601, 1350, 1353, 1354], c ∉ W) (h1 : m 12 0 1 ≤ m2 12 0 1) (hI : InvM m) : InvM m2 := by
  have e1 : m2 12 0 51 = m 12 0 51 := h 12 0 51 (hd 5051 (by decide))
  have e2 : m2 12 0 52 = m 12 0 52 := h 12 0 52 (hd 5052 (by decide))
  have f0 : m2 5 0 = m 5 0 := FrM_f h (by decide) (hd _ (by decide))
  have f1 : m2 600 0 = m 600 0 := FrM_f h (by decide) (hd _ (by decide))
  have f2 : m2 601 0 = m 601 0 := FrM_f h (by decide) (hd _ (by decide))
  have f3 : m2 1350 0 = m 1350 0 := FrM_f h (by decide) (hd _ (by decide))
  have f4 : m2 1353 0 = m 1353 0 := FrM_f h (by decide) (hd _ (by decide))
  have f5 : m2 1354 0 = m 1354 0 := FrM_f h (by decide) (hd _ (by decide))
  unfold InvM at hI ⊢
  rw [e1, e2, f0, f1, f2, f3, f4, f5]
  refine ⟨hI.1, hI.2.1, hI.2.2.1, fun q => ?_⟩
  have := hI.2.2.2 q
  exact ⟨⟨this.1.1, Int.le_trans this.1.2 h1⟩, this.2⟩
theorem InvS_55 {W : List Nat} (h : FrM W m m2) (hd : ∀ c ∈ [10, 1100, 1359, 1360, 1361], c ∉ W) (h1 : m 12 0 55 ≤ m2 12 0 55) (hI : InvS m) : InvS m2 := by
  have f0 : ∀ j, m2 10 j = m 10 j := fun j => FrM_f h (by decide) (hd _ (by decide))
  have f1 : ∀ j, m2 1100 j = m 1100 j := fun j => FrM_f h (by decide) (hd _ (by decide))
  have f2 : m2 1359 0 = m 1359 0 := FrM_f h (by decide) (hd _ (by decide))
  have f3 : m2 1360 0 = m 1360 0 := FrM_f h (by decide) (hd _ (by decide))
  have f4 : m2 1361 0 = m 1361 0 := FrM_f h (by decide) (hd _ (by decide))
  intro s hs
  have := hI s hs
  rw [f0, f1, f2, f3, f4]
  refine ⟨?_, this.2⟩
  rcases this.1 with q | q | q
  · exact Or.inl q
  · exact Or.inr (Or.inl ⟨q.1, by omega, q.2.2⟩)
  · exact Or.inr (Or.inr q)
theorem pa_eq {y1 y2 : MethodName} {c1 c2 : ByteArray} {n1 n2 dd : Nat} {a1 a2 : List AV} (hA : InvAl m)
    (pr : (∀ x m1, MtX y2 c2 n2 (some .int) dd a2 m1 (fun r m2 => r = some (vi x) ∧ m2 = m) → Q (some (vi x)) m1) → MtX y1 c1 n1 (some .int) dd a1 m Q)
    (hQ : ∀ x m1, MtX y2 c2 n2 (some .int) dd a2 m1 (fun r m2 => r = some (vi x) ∧ InvAl m2 ∧ m2 2 0 6 ≤ m 2 0 6 + 8) → Q (some (vi x)) m1) : MtX y1 c1 n1 (some .int) dd a1 m Q :=
  pr fun x m1 hM => hQ x m1 (MtX_mono hM fun r m2 hq => ⟨hq.1, by rw [hq.2]; exact hA, by rw [hq.2]; omega⟩)
def fpR (F : List Nat) : List Nat := fpA.filter fun c => !F.contains c
/-- shelves were written -/
theorem InvAl_S {W : List Nat} (h : FrM W m m2) (hW : ((fpR fpS) ++ [5055]).all (fun c => !W.contains c) = true) (hS : InvS m2) (hA : InvAl m) : InvAl m2 ∧ m2 2 0 6 = m 2 0 6 := by
  have hd : ∀ c ∈ (fpR fpS) ++ [5055], c ∉ W := fun c hc q => by
    have := List.all_eq_true.mp hW c hc
    simp at this
    exact this q
  have sm : ∀ F : List Nat, (∀ c ∈ F, c ∈ (fpR fpS) ++ [5055]) → Sm F m m2 := fun F hF k j i hc => h k j i (hd _ (hF _ hc))
  obtain ⟨a1, a2, a3, a4, a5, a6, a7, a8, L, b1, b2, b3⟩ := hA
  have e2 : m2 2 0 = m 2 0 := FrM_f h (by decide) (hd _ (by decide))
  have e11 : m2 4 0 = m 4 0 := FrM_f h (by decide) (hd _ (by decide))
  have hp : pOf m2 = pOf m := pOf_fr h fun c hc => hd c ((by decide : ∀ c ∈ [2, 300, 301, 302, 303], c ∈ (fpR fpS) ++ [5055]) c hc)
  refine ⟨⟨InvH_sm (sm _ (by decide)) a1, InvC_sm (sm _ (by decide)) a2, InvT_sm (sm _ (by decide)) a3, InvM_sm (sm _ (by decide)) a4, InvBd_sm (sm _ (by decide)) a5, hS, ?_, ?_, L, LawC_fr h (hd _ (by decide)) (hd _ (by decide)) (hd _ (by decide)) (hd _ (by decide)) b1, LawM_fr h (fun c hc => hd c ((by decide : ∀ c ∈ [5026, 1319, 1320, 1321, 1322, 1323], c ∈ (fpR fpS) ++ [5055]) c hc)) b2, ?_⟩, ?_⟩
  · unfold InvD; rw [e2, e11]; exact a7
  · rw [e2]; exact a8
  · rw [hp]
    exact InvSr_fr h (fun c hc => hd c ((by decide : ∀ c ∈ [2, 8, 902], c ∈ (fpR fpS) ++ [5055]) c hc)) b3
  · rw [e2]
theorem pa_S {y1 y2 : MethodName} {c1 c2 : ByteArray} {n1 n2 dd : Nat} {a1 a2 : List AV} {W : List Nat} (hW : ((fpR fpS) ++ [5055]).all (fun c => !W.contains c) = true) (hA : InvAl m)
    (pr : (∀ x m1, MtX y2 c2 n2 (some .int) dd a2 m1 (fun r m2 => r = some (vi x) ∧ InvS m2 ∧ FrM W m m2) → Q (some (vi x)) m1) → MtX y1 c1 n1 (some .int) dd a1 m Q)
    (hQ : ∀ x m1, MtX y2 c2 n2 (some .int) dd a2 m1 (fun r m2 => r = some (vi x) ∧ InvAl m2 ∧ m2 2 0 6 ≤ m 2 0 6 + 8) → Q (some (vi x)) m1) : MtX y1 c1 n1 (some .int) dd a1 m Q :=
  pr fun x m1 hM => hQ x m1 (MtX_mono hM fun r m2 hq => ⟨hq.1, by
    have := InvAl_S hq.2.2 hW hq.2.1 hA
    exact ⟨this.1, by omega⟩⟩)
theorem pa_put {a b v : Int} (hA : InvAl m) (hQ : ∀ x m1, MtX yX12_put cX12_put 7 (some .int) (d + 4) [vr 12 0, vi a, vi b, vl v] m1 (fun r m2 => r = some (vi x) ∧ InvAl m2 ∧ m2 2 0 6 ≤ m 2 0 6 + 8) → Q (some (vi x)) m1) : MtX yX11_put cX11_put 6 (some .int) (d + 4) [vr 11 0, vi a, vi b, vl v] m Q :=
  pa_S (W := wPut) (by decide) hA (fun g => pr_put hA.2.2.2.2.2.1 g) hQ
end
