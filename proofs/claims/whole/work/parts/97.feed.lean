/-! feed, and that it leaves the draft -/
theorem pr_feed2 {d : Nat} {a : Int} {m : AMem} {Q : Option AV → AMem → Prop} (hI : InvT m)
    (hQ : ∀ x m1, MtX yX12_feed cX12_feed 2 (some .int) (d + 3) [vr 12 0, vi a] m1 (fun r m2 => r = some (vi x) ∧ InvT m2 ∧ FrM wFeed m m2 ∧ m2 4 0 4 = m 4 0 4) → Q (some (vi x)) m1) : MtX yX11_feed cX11_feed 2 (some .int) (d + 3) [vr 11 0, vi a] m Q := by
  obtain ⟨⟨h1, h2, h3⟩, h4⟩ := hI
  have hI : InvT m := ⟨⟨h1, h2, h3⟩, h4⟩
  have bad : ¬ (0 ≤ a ∧ a ≤ 255) → Q (some (vi (-1))) m := fun hb => hQ _ _ (Y_met rfl 0 rfl (sg_X12_feed_0 _ _ _ (cm_in fun x hx => ⟨x, rfl, fun c => by omega, fun c => ⟨trivial, rfl, hI, FrM_refl _ _, rfl⟩⟩)))
  refine Y_met rfl 0 rfl (sg_X11_feed_0 _ _ _ ⟨fun c => ⟨trivial, bad (by omega)⟩, fun c => ⟨fun c2 => ?_, fun c2 => ⟨trivial, bad (by omega)⟩⟩⟩)
  refine Y_met rfl 0 rfl (sg_X4_isFull_0 _ _ ⟨fun c3 => ⟨Or.inl rfl, 0, rfl, fun _ => ?_, fun z => absurd rfl z⟩, fun c3 => ⟨Or.inr rfl, 1, rfl, fun z => by omega, fun _ => ⟨trivial, hQ _ _ ?_⟩⟩⟩)
  · refine Y_met rfl 0 rfl (sg_X4_add_0 _ _ _ ⟨by omega, trivial, _, rfl, trivial, hQ _ _ ?_⟩)
    have e1 : w32 (m 4 0 1 + 1) = m 12 0 14 + 1 := by simp only [w32e]; omega
    rw [e1]
    refine Y_met rfl 0 rfl (sg_X12_feed_0 _ _ _ (cm_in fun x hx => ⟨x, rfl, fun c4 => ⟨fun c5 => ?_, fun c5 => ?_⟩, fun c4 => by omega⟩))
    · simp only [upM, Nat.reduceEqDiff, if_false, if_true] at c5 ⊢
      have e2 : w32 (m 12 0 14 + 1) = m 12 0 14 + 1 := by simp only [w32e]; omega
      refine ⟨by omega, trivial, by rw [e2], ⟨⟨?_, ?_, ?_⟩, ?_⟩, ?_, ?_⟩
      · simp [upM]; omega
      · simp [upM]; omega
      · simp [upM]; omega
      · intro i hi hi2
        simp [upM] at hi2 ⊢
        rw [e2] at hi2
        by_cases hc : i = m 12 0 14
        · subst hc
          rw [h3]
          simp [b8b8]
          omega
        · rw [h3]
          simp [hc]
          exact h4 i hi (by omega)
      · exact FrM_up (FrM_uk (FrM_up (FrM_uk (FrM_refl _ _) (by decide) (by decide)) (by decide)) (by decide) (by decide)) (by decide)
      · simp [upM]
    · simp only [upM, Nat.reduceEqDiff, if_false] at c5
      omega
  · refine Y_met rfl 0 rfl (sg_X12_feed_0 _ _ _ (cm_in fun x hx => ⟨x, rfl, fun c4 => ⟨fun c5 => by omega, fun c5 => ⟨trivial, rfl, hI, FrM_refl _ _, rfl⟩⟩, fun c4 => by omega⟩))
theorem pa_feed {d : Nat} {a : Int} {m : AMem} {Q : Option AV → AMem → Prop} (hA : InvAl m) (hQ : ∀ x m1, MtX yX12_feed cX12_feed 2 (some .int) (d + 3) [vr 12 0, vi a] m1 (fun r m2 => r = some (vi x) ∧ InvAl m2 ∧ m2 2 0 6 ≤ m 2 0 6 + 8) → Q (some (vi x)) m1) : MtX yX11_feed cX11_feed 2 (some .int) (d + 3) [vr 11 0, vi a] m Q := by
  obtain ⟨a1, a2, a3, a4, a5, a6, a7, a8, L, b1, b2, b3⟩ := hA
  refine pr_feed2 a3 fun x m1 hM => hQ x m1 (MtX_mono hM fun r m2 ⟨q1, q2, q3, q4⟩ => ⟨q1, ?_⟩)
  have e2 : m2 2 0 = m 2 0 := FrM_f q3 (by decide) (by decide)
  have hp : pOf m2 = pOf m := pOf_fr q3 (by decide)
  refine ⟨⟨InvH_sm (Sm_of q3 (by decide)) a1, InvC_sm (Sm_of q3 (by decide)) a2, q2, InvM_sm (Sm_of q3 (by decide)) a4, InvBd_sm (Sm_of q3 (by decide)) a5, InvS_sm (Sm_of q3 (by decide)) a6, ?_, ?_, L, LawC_fr q3 (by decide) (by decide) (by decide) (by decide) b1, LawM_fr q3 (by decide) b2, ?_⟩, ?_⟩
  · unfold InvD; rw [e2, q4]; exact a7
  · rw [e2]; exact a8
  · rw [hp]; exact InvSr_fr q3 (by decide) b3
  · rw [e2]; omega
