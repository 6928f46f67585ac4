/-! pairs: a call of the class, then the same of the reference: the same answer, and what holds between them -/
theorem up_s {mem : AMem} {k j : Nat} {i v : Int} : upM mem k j i v k j i = v := by simp [upM]
theorem up_k {mem : AMem} {k j k2 j2 : Nat} {i i2 v : Int} (h : k2 ≠ k) : upM mem k j i v k2 j2 i2 = mem k2 j2 i2 := by simp [upM, h]
theorem up_i {mem : AMem} {k j j2 : Nat} {i i2 v : Int} (h : i2 ≠ i) : upM mem k j i v k j2 i2 = mem k j2 i2 := by simp [upM, h]
theorem up_j {mem : AMem} {k j j2 : Nat} {i i2 v : Int} (h : j2 ≠ j) : upM mem k j i v k j2 i2 = mem k j2 i2 := by simp [upM, h]
theorem b8b8 (x : Int) : b8 (b8 x) = b8 x := by unfold b8; exact Int.bmod_bmod
theorem FrM_uk {W : List Nat} {m m2 : AMem} {k j : Nat} {i v : Int} (h : FrM W m m2) (hk : k ≠ 12) (hc : k ∈ W) : FrM W m (upM m2 k j i v) := FrM_up h (by unfold cdc; rw [if_neg hk]; exact hc)
def wFeed : List Nat := [4, 500, 5014, 1313]
theorem pr_feed {d : Nat} {a : Int} {m : AMem} {Q : Option AV → AMem → Prop} (hI : InvT m)
    (hQ : ∀ x m1, MtX yX12_feed cX12_feed 2 (some .int) (d + 3) [vr 12 0, vi a] m1 (fun r m2 => r = some (vi x) ∧ InvT m2 ∧ FrM wFeed m m2) → Q (some (vi x)) m1) : MtX yX11_feed cX11_feed 2 (some .int) (d + 3) [vr 11 0, vi a] m Q := by
  obtain ⟨⟨h1, h2, h3⟩, h4⟩ := hI
  have hI : InvT m := ⟨⟨h1, h2, h3⟩, h4⟩
  have bad : ¬ (0 ≤ a ∧ a ≤ 255) → Q (some (vi (-1))) m := fun hb => hQ _ _ (Y_met rfl 0 rfl (sg_X12_feed_0 _ _ _ (cm_in fun x hx => ⟨x, rfl, fun c => by omega, fun c => ⟨trivial, rfl, hI, FrM_refl _ _⟩⟩)))
  refine Y_met rfl 0 rfl (sg_X11_feed_0 _ _ _ ⟨fun c => ⟨trivial, bad (by omega)⟩, fun c => ⟨fun c2 => ?_, fun c2 => ⟨trivial, bad (by omega)⟩⟩⟩)
  refine Y_met rfl 0 rfl (sg_X4_isFull_0 _ _ ⟨fun c3 => ⟨Or.inl rfl, 0, rfl, fun _ => ?_, fun z => absurd rfl z⟩, fun c3 => ⟨Or.inr rfl, 1, rfl, fun z => by omega, fun _ => ⟨trivial, hQ _ _ ?_⟩⟩⟩)
  · refine Y_met rfl 0 rfl (sg_X4_add_0 _ _ _ ⟨by omega, trivial, _, rfl, trivial, hQ _ _ ?_⟩)
    have e1 : w32 (m 4 0 1 + 1) = m 12 0 14 + 1 := by simp only [w32e]; omega
    rw [e1]
    refine Y_met rfl 0 rfl (sg_X12_feed_0 _ _ _ (cm_in fun x hx => ⟨x, rfl, fun c4 => ⟨fun c5 => ?_, fun c5 => ?_⟩, fun c4 => by omega⟩))
    · simp only [upM, Nat.reduceEqDiff, if_false, if_true] at c5 ⊢
      have e2 : w32 (m 12 0 14 + 1) = m 12 0 14 + 1 := by simp only [w32e]; omega
      refine ⟨by omega, trivial, by rw [e2], ⟨⟨?_, ?_, ?_⟩, ?_⟩, ?_⟩
      · simp [upM]; omega
      · simp [upM]; omega
      · simp [upM]; omega
      · intro i hi hi2
        simp [upM] at hi2 ⊢
        rw [e2] at hi2
        by_cases hc : i = m 12 0 14
        · subst hc
          rw [h3]
          simp [b8b8]
          omega
        · rw [h3]
          simp [hc]
          exact h4 i hi (by omega)
      · exact FrM_up (FrM_uk (FrM_up (FrM_uk (FrM_refl _ _) (by decide) (by decide)) (by decide)) (by decide) (by decide)) (by decide)
    · simp only [upM, Nat.reduceEqDiff, if_false] at c5
      omega
  · refine Y_met rfl 0 rfl (sg_X12_feed_0 _ _ _ (cm_in fun x hx => ⟨x, rfl, fun c4 => ⟨fun c5 => by omega, fun c5 => ⟨trivial, rfl, hI, FrM_refl _ _⟩⟩, fun c4 => by omega⟩))
theorem pr_led {d : Nat} {a : Int} {m : AMem} {Q : Option AV → AMem → Prop} (hI : InvM m)
    (hQ : ∀ x m1, MtX yX12_led cX12_led 2 (some .int) (d + 3) [vr 12 0, vi a] m1 (fun r m2 => r = some (vi x) ∧ m2 = m) → Q (some (vi x)) m1) : MtX yX11_led cX11_led 2 (some .int) (d + 3) [vr 11 0, vi a] m Q := by
  have bad : ¬ (0 ≤ a ∧ a < 5) → Q (some (vi (-1))) m := fun hb => hQ _ _ (Y_met rfl 0 rfl (sg_X12_led_0 _ _ _ (cm_in fun x hx => ⟨x, rfl, fun c => ⟨trivial, rfl, rfl⟩, fun c => by omega⟩)))
  refine Y_met rfl 0 rfl (sg_X11_led_0 _ _ _ ⟨fun c => ⟨trivial, bad (by omega)⟩, fun c => ⟨fun c2 => ⟨by omega, trivial, hQ _ _ ?_⟩, fun c2 => ⟨trivial, bad (by omega)⟩⟩⟩)
  exact Y_met rfl 0 rfl (sg_X12_led_0 _ _ _ (cm_in fun x hx => ⟨x, rfl, fun c3 => by omega, fun c3 => ⟨by omega, trivial, by rw [hI.1 a (by omega) (by omega)], rfl⟩⟩))
theorem pr_trace {d : Nat} {a : Int} {m : AMem} {Q : Option AV → AMem → Prop} (hI : InvBd m)
    (hQ : ∀ x m1, MtX yX12_trace cX12_trace 2 (some .int) (d + 3) [vr 12 0, vi a] m1 (fun r m2 => r = some (vi x) ∧ m2 = m) → Q (some (vi x)) m1) : MtX yX11_trace cX11_trace 2 (some .int) (d + 3) [vr 11 0, vi a] m Q := by
  obtain ⟨h1, h2, h3, h4⟩ := hI
  have bad : ¬ (0 ≤ a ∧ a < m 12 0 57 ∧ a < 24) → Q (some (vi (-1))) m := fun hb => hQ _ _ (Y_met rfl 0 rfl (sg_X12_trace_0 _ _ _ ⟨fun _ => ⟨trivial, rfl, rfl⟩, fun _ => ⟨fun _ => ⟨trivial, rfl, rfl⟩, fun _ => ⟨fun _ => ⟨trivial, rfl, rfl⟩, fun _ => by omega⟩⟩⟩))
  refine Y_met rfl 0 rfl (sg_X11_trace_0 _ _ _ ⟨fun c => ⟨trivial, bad (by omega)⟩, fun c => ?_⟩)
  refine Y_met rfl 0 rfl (sg_X0_traced_0 _ _ ⟨trivial, _, rfl, fun c2 => ⟨by omega, trivial, hQ _ _ ?_⟩, fun c2 => ⟨trivial, bad (by omega)⟩⟩)
  refine Y_met rfl 0 rfl (sg_X12_trace_0 _ _ _ ⟨fun _ => by omega, fun _ => ⟨fun _ => by omega, fun _ => ⟨fun _ => by omega, fun _ => ⟨by omega, trivial, ?_, rfl⟩⟩⟩⟩)
  rw [h4 a (by omega) (by omega) (by omega)]
def wBody : List Nat := [0, 100, 5055, 1356]
theorem pr_body {d : Nat} {a : Int} {m : AMem} {Q : Option AV → AMem → Prop} (hI : InvBd m)
    (hQ : ∀ x m1, MtX yX12_body cX12_body 2 (some .int) (d + 3) [vr 12 0, vi a] m1 (fun r m2 => r = some (vi x) ∧ InvBd m2 ∧ m 12 0 55 ≤ m2 12 0 55 ∧ FrM wBody m m2) → Q (some (vi x)) m1) : MtX yX11_body cX11_body 2 (some .int) (d + 3) [vr 11 0, vi a] m Q := by
  have hI0 := hI
  obtain ⟨⟨h1, h2, h3⟩, h4, h5, h6⟩ := hI
  have bad : ¬ (0 ≤ a ∧ a ≤ 7) → Q (some (vi (-1))) m := fun hb => hQ _ _ (Y_met rfl 0 rfl (sg_X12_body_0 _ _ _ (cm_in fun x hx => ⟨x, rfl, fun c => by omega, fun c => ⟨trivial, rfl, hI0, by omega, FrM_refl _ _⟩⟩)))
  refine Y_met rfl 0 rfl (sg_X11_body_0 _ _ _ ⟨fun c => ⟨trivial, bad (by omega)⟩, fun c => ⟨fun c2 => ?_, fun c2 => ⟨trivial, bad (by omega)⟩⟩⟩)
  refine Y_met rfl 0 rfl (sg_X0_isFull_0 _ _ ⟨fun c3 => ⟨Or.inl rfl, 0, rfl, fun _ => ?_, fun z => absurd rfl z⟩, fun c3 => ⟨Or.inr rfl, 1, rfl, fun z => by omega, fun _ => ⟨trivial, hQ _ _ ?_⟩⟩⟩)
  · refine Y_met rfl 0 rfl (sg_X0_add_0 _ _ _ ⟨by omega, trivial, _, rfl, trivial, hQ _ _ ?_⟩)
    have e1 : w32 (m 0 0 2 + 1) = m 12 0 55 + 1 := by simp only [w32e]; omega
    have e2 : w32 (m 12 0 55 + 1) = m 12 0 55 + 1 := by simp only [w32e]; omega
    have e3 : w32 (m 12 0 55 + 1 - 1) = m 12 0 55 := by simp only [w32e]; omega
    rw [e1, e3]
    refine Y_met rfl 0 rfl (sg_X12_body_0 _ _ _ (cm_in fun x hx => ⟨x, rfl, fun c4 => ⟨fun c5 => ?_, fun c5 => ?_⟩, fun c4 => by omega⟩))
    · simp only [upM, Nat.reduceEqDiff, if_false, if_true] at c5 ⊢
      rw [e2, e3]
      refine ⟨by omega, trivial, rfl, ⟨⟨?_, ?_, ?_⟩, ?_, ?_, ?_⟩, ?_, ?_⟩
      · simp [upM]; omega
      · simp [upM]; omega
      · simp [upM]
      · intro i hi hi2
        simp [upM] at hi2 ⊢
        rw [h3]
        by_cases hc : i = m 12 0 55
        · simp [hc]; omega
        · simp [hc]; exact h4 i hi (by omega)
      · simpa [upM] using h5
      · intro i hi hi2 hi3
        simp [upM] at hi2 ⊢
        exact h6 i hi hi2 hi3
      · omega
      · exact FrM_up (FrM_uk (FrM_up (FrM_uk (FrM_refl _ _) (by decide) (by decide)) (by decide)) (by decide) (by decide)) (by decide)
    · simp only [upM, Nat.reduceEqDiff, if_false] at c5
      omega
  · exact Y_met rfl 0 rfl (sg_X12_body_0 _ _ _ (cm_in fun x hx => ⟨x, rfl, fun c4 => ⟨fun c5 => by omega, fun c5 => ⟨trivial, rfl, hI0, by omega, FrM_refl _ _⟩⟩, fun c4 => by omega⟩))
theorem cc_noSuchShelf {d : Nat} {v : Int} {mem : AMem} {Q : Option AV → AMem → Prop} (h : ∀ x : Int, (x = 0 ∧ 0 ≤ v ∧ v ≤ 5 ∨ x = 1 ∧ ¬ (0 ≤ v ∧ v ≤ 5)) → Q (some (vi x)) mem) : MtX yX11_noSuchShelf cX11_noSuchShelf 1 (some .boolean) (d + 1) [vi v] mem Q :=
  Y_met rfl 0 rfl (sg_X11_noSuchShelf_0 _ _ _ ⟨fun c => ⟨Or.inr rfl, h 1 (by omega)⟩, fun c => ⟨fun c2 => ⟨Or.inl rfl, h 0 (by omega)⟩, fun c2 => ⟨Or.inr rfl, h 1 (by omega)⟩⟩⟩)
theorem cc_knowsB {d : Nat} {v : Int} {mem : AMem} {Q : Option AV → AMem → Prop} (h : ∀ x : Int, (x = 1 ∧ 0 ≤ v ∧ v < mem 0 0 2 ∨ x = 0 ∧ ¬ (0 ≤ v ∧ v < mem 0 0 2)) → Q (some (vi x)) mem) : MtX yX0_knows cX0_knows 2 (some .boolean) (d + 1) [vr 0 0, vi v] mem Q :=
  Y_met rfl 0 rfl (sg_X0_knows_0 _ _ _ ⟨fun c => ⟨Or.inl rfl, h 0 (by omega)⟩, fun c => ⟨fun c2 => ⟨Or.inl rfl, h 0 (by omega)⟩, fun c2 => ⟨Or.inr rfl, h 1 (by omega)⟩⟩⟩)
