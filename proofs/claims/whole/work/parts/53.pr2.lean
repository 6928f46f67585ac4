/-! shelves -/
def RfE (m : AMem) (a b x : Int) : Prop := (x = -1 ∧ ¬ (0 ≤ a ∧ a ≤ 5)) ∨ ((0 ≤ a ∧ a ≤ 5) ∧ ((m 1359 0 a = -1 ∧ x = -11) ∨ (0 ≤ m 1359 0 a ∧ x = -12) ∨ (m 1359 0 a ≤ -2 ∧ ¬ (0 ≤ b ∧ b < m 1360 0 a) ∧ x = -13) ∨ (m 1359 0 a ≤ -2 ∧ 0 ≤ b ∧ b < m 1360 0 a ∧ x = 0)))
theorem invS_at {m : AMem} (hI : InvS m) {a : Int} (h : 0 ≤ a ∧ a ≤ 5) :
    ((m 1359 0 a = -1 ∧ m 10 a.toNat 4 = 0) ∨ (0 ≤ m 1359 0 a ∧ m 1359 0 a < m 12 0 55 ∧ m 10 a.toNat 4 = 1 ∧ m 10 a.toNat 3 = m 1359 0 a) ∨ (-6 ≤ m 1359 0 a ∧ m 1359 0 a ≤ -2 ∧ m 10 a.toNat 4 = 2 ∧ m 10 a.toNat 2 = -2 - m 1359 0 a)) ∧
    (0 ≤ m 1360 0 a ∧ m 1360 0 a ≤ 60 ∧ m 10 a.toNat 1 = m 1360 0 a) ∧ ∀ i : Int, 0 ≤ i → i < 60 → m 1100 a.toNat i = m 1361 0 (60 * a + i) ∧ (m 1359 0 a = -2 → -128 ≤ m 1100 a.toNat i ∧ m 1100 a.toNat i ≤ 127) := by
  have := hI a.toNat (by omega)
  rwa [show ((a.toNat : Nat) : Int) = a by omega] at this
theorem cm_why {d : Nat} {a b : Int} {m : AMem} {Q : Option AV → AMem → Prop} (hI : InvS m) (h : ∀ x, RfE m a b x → Q (some (vi x)) m) : MtX yX12_whyNoPlace cX12_whyNoPlace 3 (some .int) (d + 3) [vr 12 0, vi a, vi b] m Q := by
  refine Y_met rfl 0 rfl (sg_X12_whyNoPlace_0 _ _ _ _ (cm_isShelf fun x hx => ⟨x, rfl, fun c => ⟨by omega, fun c2 => ⟨by omega, fun c3 => ⟨by omega, ?_⟩, fun c3 => ⟨trivial, h _ (by unfold RfE; omega)⟩⟩, fun c2 => ⟨trivial, h _ (by unfold RfE; omega)⟩⟩, fun c => ⟨trivial, h _ (by unfold RfE; omega)⟩⟩))
  have hs := invS_at hI (a := a) (by omega)
  have e : w32 (m 1360 0 a - 1) = m 1360 0 a - 1 := by simp only [w32e]; omega
  rw [e]
  exact cm_in fun y hy => ⟨y, rfl, fun c4 => ⟨trivial, h _ (by unfold RfE; omega)⟩, fun c4 => ⟨trivial, h _ (by unfold RfE; omega)⟩⟩
theorem cc_isEmpty {d j : Nat} {m : AMem} {Q : Option AV → AMem → Prop} (h : ∀ x : Int, (x = 1 ∧ m 10 j 4 = 0 ∨ x = 0 ∧ m 10 j 4 ≠ 0) → Q (some (vi x)) m) : MtX yX10_isEmpty cX10_isEmpty 1 (some .boolean) (d + 1) [vr 10 j] m Q :=
  Y_met rfl 0 rfl (sg_X10_isEmpty_0 _ _ _ ⟨fun c => ⟨Or.inl rfl, h 0 (by omega)⟩, fun c => ⟨Or.inr rfl, h 1 (by omega)⟩⟩)
theorem cc_holdsRow {d j : Nat} {m : AMem} {Q : Option AV → AMem → Prop} (h : ∀ x : Int, (x = 1 ∧ m 10 j 4 = 2 ∨ x = 0 ∧ m 10 j 4 ≠ 2) → Q (some (vi x)) m) : MtX yX10_holdsRow cX10_holdsRow 1 (some .boolean) (d + 1) [vr 10 j] m Q :=
  Y_met rfl 0 rfl (sg_X10_holdsRow_0 _ _ _ ⟨fun c => ⟨Or.inl rfl, h 0 (by omega)⟩, fun c => ⟨Or.inr rfl, h 1 (by omega)⟩⟩)
theorem cc_reaches {d j : Nat} {a b : Int} {m : AMem} {Q : Option AV → AMem → Prop} (hb : ri b) (h0 : 0 ≤ m 10 j 1 ∧ m 10 j 1 ≤ 60) (h : ∀ x : Int, (x = 1 ∧ 0 ≤ a ∧ 0 ≤ b ∧ a + b ≤ m 10 j 1 ∨ x = 0 ∧ ¬ (0 ≤ a ∧ 0 ≤ b ∧ a + b ≤ m 10 j 1)) → Q (some (vi x)) m) : MtX yX10_reaches cX10_reaches 3 (some .boolean) (d + 1) [vr 10 j, vi a, vi b] m Q := by
  have hb1 := hb.2
  refine Y_met rfl 0 rfl (sg_X10_reaches_0 _ _ _ _ _ ⟨fun c => ⟨Or.inl rfl, h 0 (by omega)⟩, fun c => ⟨fun c2 => ⟨Or.inl rfl, h 0 (by omega)⟩, fun c2 => ⟨fun c3 => ⟨Or.inl rfl, h 0 (by omega)⟩, fun c3 => ?_⟩⟩⟩)
  have e : w32 (m 10 j 1 - a) = m 10 j 1 - a := by simp only [w32e]; omega
  rw [e]
  exact ⟨fun c4 => ⟨Or.inl rfl, h 0 (by omega)⟩, fun c4 => ⟨Or.inr rfl, h 1 (by omega)⟩⟩
theorem cc_refEl {d : Nat} {a b : Int} {m : AMem} {Q : Option AV → AMem → Prop} (hI : InvS m) (h : ∀ x, RfE m a b x → Q (some (vi x)) m) : MtX yX11_refusalOfElement cX11_refusalOfElement 3 (some .int) (d + 2) [vr 11 0, vi a, vi b] m Q := by
  refine Y_met rfl 0 rfl (sg_X11_refusalOfElement_0 _ _ _ _ (cc_noSuchShelf fun x hx => ⟨x, rfl, fun c => ⟨by omega, ?_⟩, fun c => ⟨trivial, h _ (by unfold RfE; omega)⟩⟩))
  have hs := invS_at hI (a := a) (by omega)
  refine cc_isEmpty fun y hy => ⟨y, rfl, fun c2 => ⟨by omega, ?_⟩, fun c2 => ⟨trivial, h _ (by unfold RfE; omega)⟩⟩
  refine cc_holdsRow fun z hz => ⟨z, rfl, fun c3 => ⟨by omega, ?_⟩, fun c3 => ⟨trivial, h _ (by unfold RfE; omega)⟩⟩
  exact cc_reaches ⟨by omega, by omega⟩ (by omega) fun w hw => ⟨w, rfl, fun c4 => ⟨trivial, h _ (by unfold RfE; omega)⟩, fun c4 => ⟨trivial, h _ (by unfold RfE; omega)⟩⟩
theorem pr_element {d : Nat} {a b : Int} {m : AMem} {Q : Option AV → AMem → Prop} (hI : InvS m)
    (hQ : ∀ x m1, MtX yX12_element cX12_element 3 (some .long) (d + 4) [vr 12 0, vi a, vi b] m1 (fun r m2 => r = some (vl x) ∧ m2 = m) → Q (some (vl x)) m1) : MtX yX11_element cX11_element 3 (some .long) (d + 4) [vr 11 0, vi a, vi b] m Q := by
  refine Y_met rfl 0 rfl (sg_X11_element_0 _ _ _ _ (cc_refEl hI fun x hx => ⟨x, rfl, fun c => ?_, fun c => ⟨trivial, hQ _ _ ?_⟩⟩))
  · unfold RfE at hx
    have hs := invS_at hI (a := a) (by omega)
    have hb : 0 ≤ b ∧ b < m 1360 0 a := by omega
    refine ⟨by omega, by omega, trivial, hQ _ _ ?_⟩
    have e : w32 (w32 (60 * a) + b) = 60 * a + b := by simp only [w32e]; omega
    refine Y_met rfl 0 rfl (sg_X12_element_0 _ _ _ _ (cm_why hI fun y hy => ⟨y, rfl, fun c2 => ?_, fun c2 => ?_⟩))
    · rw [e]
      exact ⟨by omega, trivial, by rw [(hs.2.2 b (by omega) (by omega)).1], rfl⟩
    · unfold RfE at hy; omega
  · refine Y_met rfl 0 rfl (sg_X12_element_0 _ _ _ _ (cm_why hI fun y hy => ⟨y, rfl, fun c2 => ?_, fun c2 => ⟨trivial, rfl, rfl⟩⟩))
    unfold RfE at hx hy; omega
def wKeep : List Nat := [10, 1359]
theorem pr_keep {d : Nat} {a b : Int} {m : AMem} {Q : Option AV → AMem → Prop} (hI : InvS m) (hB : InvBd m)
    (hQ : ∀ x m1, MtX yX12_keep cX12_keep 3 (some .int) (d + 4) [vr 12 0, vi a, vi b] m1 (fun r m2 => r = some (vi x) ∧ InvS m2 ∧ FrM wKeep m m2) → Q (some (vi x)) m1) : MtX yX11_keep cX11_keep 3 (some .int) (d + 4) [vr 11 0, vi a, vi b] m Q := by
  obtain ⟨⟨h1, h2, h3⟩, -⟩ := hB
  have bad : ¬ ((0 ≤ a ∧ a ≤ 5) ∧ (b = -1 ∨ (0 ≤ b ∧ b < m 12 0 55))) → Q (some (vi (-1))) m := fun hb => hQ _ _ (Y_met rfl 0 rfl (sg_X12_keep_0 _ _ _ _ (cm_isShelf fun x hx => ⟨x, rfl, fun c => ⟨trivial, rfl, hI, FrM_refl _ _⟩, fun c => ⟨fun c2 => by omega, fun c2 => cm_isBody (by omega) fun y hy => ⟨y, rfl, fun c3 => by omega, fun c3 => ⟨trivial, rfl, hI, FrM_refl _ _⟩⟩⟩⟩)))
  have key : ∀ t, (0 ≤ a ∧ a ≤ 5) → (b = -1 ∧ t = 0 ∨ (0 ≤ b ∧ b < m 12 0 55 ∧ t = 1)) → MtX yX12_keep cX12_keep 3 (some .int) (d + 4) [vr 12 0, vi a, vi b] (upM (upM m 10 a.toNat 4 t) 10 a.toNat 3 b) (fun r m2 => r = some (vi 1) ∧ InvS m2 ∧ FrM wKeep m m2) := by
    intro t ha hb
    have fin : InvS (upM (upM (upM m 10 a.toNat 4 t) 10 a.toNat 3 b) 1359 0 a b) ∧ FrM wKeep m (upM (upM (upM m 10 a.toNat 4 t) 10 a.toNat 3 b) 1359 0 a b) := by
      refine ⟨?_, FrM_uk (FrM_uk (FrM_uk (FrM_refl _ _) (by decide) (by decide)) (by decide) (by decide)) (by decide) (by decide)⟩
      intro s hs
      have hs0 := hI s hs
      by_cases e : (s : Int) = a
      · have e2 : a.toNat = s := by omega
        rw [e2]
        subst e
        simp [upM]
        refine ⟨by omega, by omega, fun i hi hi2 => ⟨(hs0.2.2 i hi hi2).1, fun z => by omega⟩⟩
      · have e2 : s ≠ a.toNat := by omega
        simp [upM, e, e2]
        exact hs0
    refine Y_met rfl 0 rfl (sg_X12_keep_0 _ _ _ _ (cm_isShelf fun x hx => ⟨x, rfl, fun c => by omega, fun c => ⟨fun c2 => ⟨by omega, trivial, rfl, fin⟩, fun c2 => ?_⟩⟩))
    refine cm_isBody (by simp [upM]; omega) fun y hy => ⟨y, rfl, fun c3 => ⟨by omega, trivial, rfl, fin⟩, fun c3 => ?_⟩
    simp [upM] at hy
    omega
  refine Y_met rfl 0 rfl (sg_X11_keep_0 _ _ _ _ (cc_noSuchShelf fun x hx => ⟨x, rfl, fun c => ⟨trivial, bad (by omega)⟩, fun c => ⟨fun c2 => ⟨by omega, ?_⟩, fun c2 => ?_⟩⟩))
  · exact Y_met rfl 0 rfl (sg_X10_holdBody_0 _ _ _ _ ⟨fun c3 => by omega, fun c3 => ⟨trivial, rfl, trivial, hQ _ _ (key 0 (by omega) (by omega))⟩⟩)
  · refine cc_knowsB fun y hy => ⟨y, rfl, fun c3 => ⟨by omega, ?_⟩, fun c3 => ⟨trivial, bad (by omega)⟩⟩
    exact Y_met rfl 0 rfl (sg_X10_holdBody_0 _ _ _ _ ⟨fun c4 => ⟨trivial, rfl, trivial, hQ _ _ (key 1 (by omega) (by omega))⟩, fun c4 => by omega⟩)
