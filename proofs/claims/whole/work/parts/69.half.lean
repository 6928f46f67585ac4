/-! the half and the changes, each told once: h (0.. strong, 10 how many, 11 who is in, 20.. columns, 30.. rows, 44..53 the numbers), g (0.. number, 100.. what, 200.. before, 300.. behind, 400 done, 401 kept) -/
def hcR (m : AMem) (h : StR) : Prop := m 2 0 5 = h 10 ∧ m 2 0 4 = h 11 ∧ (∀ i : Int, 0 ≤ i → i < h 10 → m 300 0 i = h (20 + i) ∧ m 301 0 i = h (30 + i) ∧ m 302 0 i = h i) ∧ ∀ w : Int, 4 ≤ w → w ≤ 13 → m 303 0 w = h (40 + w)
def hmR (m : AMem) (h : StR) : Prop := m 12 0 1 = h 10 ∧ (∀ i : Int, 0 ≤ i → i < h 10 → m 1302 0 i = h (20 + i) ∧ m 1303 0 i = h (30 + i) ∧ m 1304 0 i = h i ∧ m 1305 0 i = tbt (h 11) i) ∧ ∀ w : Int, 4 ≤ w → w ≤ 13 → m 1306 0 (w - 4) = h (40 + w)
def hOk (h : StR) : Prop := (0 ≤ h 10 ∧ h 10 ≤ 7) ∧ (0 ≤ h 11 ∧ h 11 < 128) ∧ (∀ i : Int, 0 ≤ i → i < h 10 → (0 ≤ h (20 + i) ∧ h (20 + i) ≤ 8) ∧ (1 ≤ h (30 + i) ∧ h (30 + i) ≤ 8) ∧ (0 ≤ h i ∧ h i ≤ 9)) ∧ (∀ i : Int, h 10 ≤ i → i < 7 → tbt (h 11) i = 0) ∧ ∀ w : Int, 4 ≤ w → w ≤ 13 → okV w (h (40 + w))
def hOf (m : AMem) : StR := fun k => if 0 ≤ k ∧ k < 7 then m 302 0 k else if k = 10 then m 2 0 5 else if k = 11 then m 2 0 4 else if 20 ≤ k ∧ k < 27 then m 300 0 (k - 20) else if 30 ≤ k ∧ k < 37 then m 301 0 (k - 30) else m 303 0 (k - 40)
theorem hOf_s {m : AMem} {i : Int} (h0 : 0 ≤ i) (h1 : i < 7) : hOf m i = m 302 0 i := if_pos ⟨h0, h1⟩
theorem hOf_c {m : AMem} {i : Int} (h0 : 0 ≤ i) (h1 : i < 7) : hOf m (20 + i) = m 300 0 i := by
  unfold hOf
  rw [if_neg (by omega), if_neg (by omega), if_neg (by omega), if_pos (by omega)]
  congr 1
  omega
theorem hOf_r {m : AMem} {i : Int} (h0 : 0 ≤ i) (h1 : i < 7) : hOf m (30 + i) = m 301 0 i := by
  unfold hOf
  rw [if_neg (by omega), if_neg (by omega), if_neg (by omega), if_neg (by omega), if_pos (by omega)]
  congr 1
  omega
theorem hOf_w {m : AMem} {w : Int} (h0 : 4 ≤ w) : hOf m (40 + w) = m 303 0 w := by
  unfold hOf
  rw [if_neg (by omega), if_neg (by omega), if_neg (by omega), if_neg (by omega), if_neg (by omega)]
  congr 1
  omega
theorem hOf_10 {m : AMem} : hOf m 10 = m 2 0 5 := rfl
theorem hOf_11 {m : AMem} : hOf m 11 = m 2 0 4 := rfl
theorem inv_h {m : AMem} (hI : InvH m) : hcR m (hOf m) ∧ hmR m (hOf m) ∧ hOk (hOf m) := by
  obtain ⟨⟨a1, a2, a3⟩, b, ⟨c1, c2, c3⟩, e⟩ := hI
  unfold hcR hmR hOk
  rw [hOf_10, hOf_11]
  refine ⟨⟨rfl, rfl, fun i g0 g1 => ?_, fun w g0 g1 => (hOf_w g0).symm⟩, ⟨a3.symm, fun i g0 g1 => ?_, fun w g0 g1 => ?_⟩, ⟨by omega, ⟨c1, c2⟩, fun i g0 g1 => ?_, fun i g0 g1 => c3 i (by omega) g1, fun w g0 g1 => ?_⟩⟩
  · rw [hOf_c g0 (by omega), hOf_r g0 (by omega), hOf_s g0 (by omega)]
    exact ⟨rfl, rfl, rfl⟩
  · rw [hOf_c g0 (by omega), hOf_r g0 (by omega), hOf_s g0 (by omega)]
    have := b i g0 (by omega)
    omega
  · rw [hOf_w g0]; exact (e w g0 g1).1.symm
  · rw [hOf_c g0 (by omega), hOf_r g0 (by omega), hOf_s g0 (by omega)]
    have := b i g0 (by omega)
    omega
  · rw [hOf_w g0]; exact (e w g0 g1).2
theorem h_inv {m : AMem} {h : StR} (h1 : hcR m h) (h2 : hmR m h) (h3 : hOk h) : InvH m := by
  obtain ⟨a1, a2, a3, a4⟩ := h1
  obtain ⟨b1, b2, b3⟩ := h2
  obtain ⟨c1, c2, c3, c4, c5⟩ := h3
  unfold InvH
  rw [b1, a1, a2]
  refine ⟨⟨c1.1, c1.2, rfl⟩, fun i g0 g1 => ?_, ⟨c2.1, c2.2, fun i g0 g1 => c4 i g0 g1⟩, fun w g0 g1 => ?_⟩
  · have q1 := a3 i g0 g1
    have q2 := b2 i g0 g1
    have q3 := c3 i g0 g1
    have q4 := tb01 c2.1 c2.2 g0 (by omega : i < 7)
    omega
  · rw [a4 w g0 g1, b3 w g0 g1]
    exact ⟨rfl, c5 w g0 g1⟩
theorem hcR_fr {W : List Nat} {m m2 : AMem} {h : StR} (hF : FrM W m m2) (h2 : ∀ c ∈ [2, 300, 301, 302, 303], c ∉ W) (hR : hcR m h) : hcR m2 h := by
  obtain ⟨a1, a2, a3, a4⟩ := hR
  refine ⟨?_, ?_, fun i g0 g1 => ?_, fun w g0 g1 => ?_⟩
  · rw [FrM_n hF (by decide) (h2 _ (by decide))]; exact a1
  · rw [FrM_n hF (by decide) (h2 _ (by decide))]; exact a2
  · rw [FrM_n hF (by decide) (h2 _ (by decide)), FrM_n hF (by decide) (h2 _ (by decide)), FrM_n hF (by decide) (h2 _ (by decide))]; exact a3 i g0 g1
  · rw [FrM_n hF (by decide) (h2 _ (by decide))]; exact a4 w g0 g1
theorem hmR_fr {W : List Nat} {m m2 : AMem} {h : StR} (hF : FrM W m m2) (h2 : ∀ c ∈ [5001, 1302, 1303, 1304, 1305, 1306], c ∉ W) (hR : hmR m h) : hmR m2 h := by
  obtain ⟨a1, a3, a4⟩ := hR
  refine ⟨?_, fun i g0 g1 => ?_, fun w g0 g1 => ?_⟩
  · rw [hF 12 0 1 (h2 _ (by decide))]; exact a1
  · rw [FrM_n hF (by decide) (h2 _ (by decide)), FrM_n hF (by decide) (h2 _ (by decide)), FrM_n hF (by decide) (h2 _ (by decide)), FrM_n hF (by decide) (h2 _ (by decide))]; exact a3 i g0 g1
  · rw [FrM_n hF (by decide) (h2 _ (by decide))]; exact a4 w g0 g1
def hAdd (h : StR) (c r s : Int) : StR := upS (upS (upS (upS (upS h (20 + h 10) c) (30 + h 10) r) (h 10) s) 11 (or_32 (h 11) (shl32 1 (h 10)))) 10 (h 10 + 1)
theorem hAdd_10 {h : StR} {c r s : Int} : hAdd h c r s 10 = h 10 + 1 := by unfold hAdd; rw [upS_s]
theorem hAdd_11 {h : StR} {c r s : Int} : hAdd h c r s 11 = or_32 (h 11) (shl32 1 (h 10)) := by unfold hAdd; rw [upS_n (by decide), upS_s]
theorem hAdd_c {h : StR} {c r s i : Int} (hn : 0 ≤ h 10 ∧ h 10 < 7) (h0 : 0 ≤ i) (h1 : i ≤ h 10) : hAdd h c r s (20 + i) = if i = h 10 then c else h (20 + i) := by
  unfold hAdd
  rw [upS_n (by omega), upS_n (by omega), upS_n (by omega), upS_n (by omega)]
  by_cases e : i = h 10
  · rw [if_pos e, e, upS_s]
  · rw [if_neg e, upS_n (by omega)]
theorem hAdd_r {h : StR} {c r s i : Int} (hn : 0 ≤ h 10 ∧ h 10 < 7) (h0 : 0 ≤ i) (h1 : i ≤ h 10) : hAdd h c r s (30 + i) = if i = h 10 then r else h (30 + i) := by
  unfold hAdd
  rw [upS_n (by omega), upS_n (by omega), upS_n (by omega)]
  by_cases e : i = h 10
  · rw [if_pos e, e, upS_s]
  · rw [if_neg e, upS_n (by omega), upS_n (by omega)]
theorem hAdd_s {h : StR} {c r s i : Int} (hn : 0 ≤ h 10 ∧ h 10 < 7) (h0 : 0 ≤ i) (h1 : i ≤ h 10) : hAdd h c r s i = if i = h 10 then s else h i := by
  unfold hAdd
  rw [upS_n (by omega), upS_n (by omega)]
  by_cases e : i = h 10
  · rw [if_pos e, e, upS_s]
  · rw [if_neg e, upS_n e, upS_n (by omega), upS_n (by omega)]
theorem hAdd_w {h : StR} {c r s w : Int} (hn : 0 ≤ h 10 ∧ h 10 < 7) (h0 : 4 ≤ w) : hAdd h c r s (40 + w) = h (40 + w) := by
  unfold hAdd
  rw [upS_n (by omega), upS_n (by omega), upS_n (by omega), upS_n (by omega), upS_n (by omega)]
theorem hAdd_ok {h : StR} {c r s : Int} (hk : hOk h) (hn : h 10 < 7) (hc : 0 ≤ c ∧ c ≤ 8) (hr : 1 ≤ r ∧ r ≤ 8) (hs : 0 ≤ s ∧ s ≤ 9) : hOk (hAdd h c r s) := by
  obtain ⟨c1, c2, c3, c4, c5⟩ := hk
  have hn2 : 0 ≤ h 10 ∧ h 10 < 7 := ⟨c1.1, hn⟩
  unfold hOk
  rw [hAdd_10, hAdd_11]
  refine ⟨by omega, or_rg c2.1 c2.2 c1.1 hn, fun i g0 g1 => ?_, fun i g0 g1 => ?_, fun w g0 g1 => ?_⟩
  · rw [hAdd_c hn2 g0 (by omega), hAdd_r hn2 g0 (by omega), hAdd_s hn2 g0 (by omega)]
    by_cases e : i = h 10
    · rw [if_pos e, if_pos e, if_pos e]; exact ⟨hc, hr, hs⟩
    · rw [if_neg e, if_neg e, if_neg e]; exact c3 i g0 (by omega)
  · rw [tb_or c2.1 c2.2 c1.1 hn (by omega) g1, if_neg (by omega)]
    exact c4 i (by omega) g1
  · rw [hAdd_w hn2 g0]; exact c5 w g0 g1
section
variable {d : Nat} {m : AMem} {h : StR} {Q : Option AV → AMem → Prop}
def wHf : List Nat := [2, 300, 301, 302, 303]
def wHm : List Nat := [5001, 1302, 1303, 1304, 1305, 1306]
theorem cc_add {c r s : Int} (hk : hOk h) (hn : h 10 < 7) (hR : hcR m h) (hst : 0 ≤ m 2 0 6 ∧ m 2 0 6 ≤ 200000)
    (hQ : ∀ m2, FrM wHf m m2 → hcR m2 (hAdd h c r s) → m2 2 0 6 = m 2 0 6 + 1 → m2 2 0 7 = m 2 0 7 → Q (some (vi (h 10))) m2) : MtX yX2_add cX2_add 5 (some .int) (d + 1) [vr 2 0, vi c, vi r, vi s] m Q := by
  obtain ⟨c1, c2, c3, c4, c5⟩ := hk
  have hn2 : 0 ≤ h 10 ∧ h 10 < 7 := ⟨c1.1, hn⟩
  obtain ⟨a1, a2, a3, a4⟩ := hR
  refine Y_met rfl 1 rfl (sg_X2_add_0 _ _ _ _ _ ?_)
  rw [a1, a2, w32i (z := h 10 + 1) (by omega) (by omega), w32i (z := m 2 0 6 + 1) (by omega) (by omega)]
  refine ⟨hn2, hn2, hn2, trivial, hQ _ ?_ ?_ ?_ ?_⟩
  · exact FrM_uk (FrM_uk (FrM_uk (FrM_uk (FrM_uk (FrM_uk (FrM_refl _ _) (by decide) (by decide)) (by decide) (by decide)) (by decide) (by decide)) (by decide) (by decide)) (by decide) (by decide)) (by decide) (by decide)
  · unfold hcR
    rw [hAdd_10, hAdd_11]
    refine ⟨?_, ?_, fun i g0 g1 => ?_, fun w g0 g1 => ?_⟩
    · simp [upM]
    · simp [upM]
    · rw [hAdd_c hn2 g0 (by omega), hAdd_r hn2 g0 (by omega), hAdd_s hn2 g0 (by omega)]
      by_cases e : i = h 10
      · simp [upM, e]
      · simp [upM, e]
        exact a3 i g0 (by omega)
    · rw [hAdd_w hn2 g0]
      simp [upM]
      exact a4 w g0 g1
  · simp [upM]
  · simp [upM]
theorem cm_add {c r s : Int} (hk : hOk h) (hn : h 10 < 7) (hR : hmR m h)
    (hQ : ∀ m2, FrM wHm m m2 → hmR m2 (hAdd h c r s) → Q (some (vi (h 10))) m2) : MtX yX12_addDefender cX12_addDefender 4 (some .int) (d + 1) [vr 12 0, vi c, vi r, vi s] m Q := by
  obtain ⟨c1, c2, c3, c4, c5⟩ := hk
  have hn2 : 0 ≤ h 10 ∧ h 10 < 7 := ⟨c1.1, hn⟩
  obtain ⟨a1, a3, a4⟩ := hR
  refine cm_addDefender (by rw [a1]; exact hn2) ?_
  rw [a1]
  refine hQ _ ?_ ?_
  · exact FrM_up (FrM_uk (FrM_uk (FrM_uk (FrM_uk (FrM_refl _ _) (by decide) (by decide)) (by decide) (by decide)) (by decide) (by decide)) (by decide) (by decide)) (by decide)
  · unfold hmR mAdd
    rw [hAdd_10, hAdd_11, a1]
    refine ⟨?_, fun i g0 g1 => ?_, fun w g0 g1 => ?_⟩
    · simp [upM]
    · rw [hAdd_c hn2 g0 (by omega), hAdd_r hn2 g0 (by omega), hAdd_s hn2 g0 (by omega), tb_or c2.1 c2.2 c1.1 hn g0 (by omega)]
      by_cases e : i = h 10
      · simp [upM, e]
      · simp [upM, e]
        exact a3 i g0 (by omega)
    · rw [hAdd_w hn2 g0]
      simp [upM]
      exact a4 w g0 g1
theorem cc_isFullH (hR : hcR m h) (hQ : ∀ x : Int, (x = 0 ∧ h 10 < 7 ∨ x = 1 ∧ 7 ≤ h 10) → Q (some (vi x)) m) : MtX yX2_isFull cX2_isFull 1 (some .boolean) (d + 1) [vr 2 0] m Q := by
  refine Y_met rfl 0 rfl (sg_X2_isFull_0 _ _ ?_)
  rw [hR.1]
  exact ⟨fun c => ⟨Or.inl rfl, hQ 0 (by omega)⟩, fun c => ⟨Or.inr rfl, hQ 1 (by omega)⟩⟩
theorem cc_isCell {rc lo : Int} (hr : ri rc) (hlo : lo = 0 ∨ lo = 1) (hQ : ∀ x : Int, (x = 1 ∧ okCell rc lo ∨ x = 0 ∧ ¬ okCell rc lo) → Q (some (vi x)) m) : MtX yX11_isCell cX11_isCell 2 (some .boolean) (d + 1) [vi rc, vi lo] m Q := by
  have h2 := hr.2
  unfold okCell at hQ
  refine Y_met rfl 0 rfl (sg_X11_isCell_0 _ _ _ _ ?_)
  rw [w32i (z := 10 * lo) (by omega) (by omega)]
  refine ⟨fun c => ⟨Or.inl rfl, hQ 0 (by omega)⟩, fun c => ?_⟩
  rw [tdiv10 (by omega), tmod10 (by omega), w32i (z := rc / 10) (by omega) (by omega)]
  exact ⟨fun c2 => ⟨Or.inl rfl, hQ 0 (by omega)⟩, fun c2 => ⟨fun c3 => ⟨Or.inl rfl, hQ 0 (by omega)⟩, fun c3 => ⟨Or.inr rfl, hQ 1 (by omega)⟩⟩⟩
/-- what may follow a change of the half -/
def StB (m m2 : AMem) : Prop := m 2 0 6 < m2 2 0 6 ∧ m2 2 0 6 ≤ m 2 0 6 + 8 ∧ m2 2 0 7 = m 2 0 7
def StP (m m2 : AMem) : Prop := m2 = m ∨ StB m m2
def wHh : List Nat := [2, 300, 301, 302, 303, 5001, 1302, 1303, 1304, 1305, 1306]
theorem pr_defender {rc s : Int} (hr : ri rc) (hI : InvH m) (hst : 0 ≤ m 2 0 6 ∧ m 2 0 6 ≤ 100000)
    (hQ : ∀ x m1, MtX yX12_defender cX12_defender 3 (some .int) (d + 3) [vr 12 0, vi rc, vi s] m1 (fun r m2 => r = some (vi x) ∧ InvH m2 ∧ FrM wHh m m2 ∧ m 12 0 1 ≤ m2 12 0 1 ∧ StP m m2) → Q (some (vi x)) m1) : MtX yX11_defender cX11_defender 3 (some .int) (d + 3) [vr 11 0, vi rc, vi s] m Q := by
  obtain ⟨q1, q2, q3⟩ := inv_h hI
  have hN := hI.1
  have hn10 : hOf m 10 = m 12 0 1 := by rw [hOf_10]; exact hN.2.2
  have bad : ∀ x, (x = -1 ∧ ¬ (okCell rc 1 ∧ 0 ≤ s ∧ s ≤ 9)) ∨ (x = -3 ∧ okCell rc 1 ∧ 0 ≤ s ∧ s ≤ 9 ∧ m 12 0 1 = 7) → Q (some (vi x)) m := fun x hx => hQ _ _ (cm_defender hr ⟨hN.1, hN.2.1⟩ (fun c => ⟨by rw [show x = -1 by unfold okCell at hx c; omega], hI, FrM_refl _ _, Int.le_refl _, Or.inl rfl⟩) (fun c1 c2 c3 c4 => ⟨by rw [show x = -3 by unfold okCell at hx c1; omega], hI, FrM_refl _ _, Int.le_refl _, Or.inl rfl⟩) (fun c1 c2 c3 c4 => by exfalso; unfold okCell at hx c1; omega))
  refine Y_met rfl 0 rfl (sg_X11_defender_0 _ _ _ _ (cc_isCell hr (Or.inr rfl) fun x hx => ⟨x, rfl, fun c => ⟨trivial, bad _ (Or.inl ⟨rfl, fun z => hx.elim (fun q => by omega) (fun q => q.2 z.1)⟩)⟩, fun c => ⟨fun c2 => ⟨trivial, bad _ (Or.inl ⟨rfl, fun z => by omega⟩)⟩, fun c2 => ⟨by decide, ?_⟩⟩⟩))
  rw [show (romL 2000).getD (Int.toNat 2) 0 = 9 by decide +kernel]
  have hcell : okCell rc 1 := by
    rcases hx with hx | hx
    · exact hx.2
    · exact absurd hx.1 c
  refine ⟨fun c3 => cc_isFullH q1 fun y hy => ⟨y, rfl, fun c4 => ?_, fun c4 => ⟨trivial, bad _ (Or.inr ⟨rfl, hcell, by omega, by omega, by omega⟩)⟩⟩, fun c3 => ⟨trivial, bad _ (Or.inl ⟨rfl, fun z => by omega⟩)⟩⟩
  have hcell2 := hcell
  unfold okCell at hcell2
  have hr2 := hr.2
  rw [tdiv10 (by omega), tmod10 (by omega), w32i (z := rc / 10) (by omega) (by omega)]
  refine cc_add q3 (by omega) q1 (by omega) fun m2 hF hR h6 h7 => ⟨_, rfl, trivial, hQ _ _ ?_⟩
  have hm2 := hmR_fr hF (by decide) q2
  have hN2 : m2 12 0 1 = m 12 0 1 := hF 12 0 1 (by decide)
  refine cm_defender hr (by omega) (fun c => by exfalso; unfold okCell at c; omega) (fun c1 c2 c3 c4 => by omega) fun c1 c2 c3 c4 => ?_
  -- the same as a call of addDefender
  have key : ∀ (Q3 : Option AV → AMem → Prop), (∀ m3, FrM wHm m2 m3 → hmR m3 (hAdd (hOf m) (rc % 10) (rc / 10) s) → Q3 (some (vi (hOf m 10))) m3) → Q3 (some (vi (m2 12 0 1))) (mAdd m2 (rc % 10) (rc / 10) s) := by
    intro Q3 hq
    have e : m2 12 0 1 = hOf m 10 := by rw [hN2, hn10]
    rw [e]
    refine hq _ ?_ ?_
    · exact FrM_up (FrM_uk (FrM_uk (FrM_uk (FrM_uk (FrM_refl _ _) (by decide) (by decide)) (by decide) (by decide)) (by decide) (by decide)) (by decide) (by decide)) (by decide)
    · obtain ⟨c1, c2, c3, c4, c5⟩ := q3
      have hn2 : 0 ≤ hOf m 10 ∧ hOf m 10 < 7 := ⟨c1.1, by omega⟩
      obtain ⟨a1, a3, a4⟩ := hm2
      unfold hmR mAdd
      rw [hAdd_10, hAdd_11, a1]
      refine ⟨?_, fun i g0 g1 => ?_, fun w g0 g1 => ?_⟩
      · simp [upM]
      · rw [hAdd_c hn2 g0 (by omega), hAdd_r hn2 g0 (by omega), hAdd_s hn2 g0 (by omega), tb_or c2.1 c2.2 c1.1 hn2.2 g0 (by omega)]
        by_cases e : i = hOf m 10
        · simp [upM, e]
        · simp [upM, e]
          exact a3 i g0 (by omega)
      · rw [hAdd_w hn2 g0]
        simp [upM]
        exact a4 w g0 g1
  refine key (fun r m2 => r = some (vi (hOf m 10)) ∧ InvH m2 ∧ FrM wHh m m2 ∧ m 12 0 1 ≤ m2 12 0 1 ∧ StP m m2) fun m3 hF3 hR3 => ?_
  refine ⟨rfl, h_inv (hcR_fr hF3 (by decide) hR) hR3 (hAdd_ok q3 (by omega) (by omega) (by omega) (by omega)), FrM_trans (FrM_mono hF (by decide)) (FrM_mono hF3 (by decide)), ?_, Or.inr ⟨?_, ?_, ?_⟩⟩
  · rw [hR3.1, hAdd_10]; omega
  · rw [FrM_n hF3 (by decide) (by decide), h6]; omega
  · rw [FrM_n hF3 (by decide) (by decide), h6]; omega
  · rw [FrM_n hF3 (by decide) (by decide), h7]
end
/-! defenders from a row -/
def f_dfs (f : Int → Int) (sz i : Int) : Nat → Nat → StR → StR × Nat
  | 0, k, h => (h, k)
  | r + 1, k, h =>
    let x := i + 3 * k
    if h 10 < 7 ∧ 0 ≤ x ∧ x + 3 ≤ sz ∧ (0 ≤ f x ∧ f x ≤ 8) ∧ (1 ≤ f (x + 1) ∧ f (x + 1) ≤ 8) ∧ (0 ≤ f (x + 2) ∧ f (x + 2) ≤ 9) then f_dfs f sz i r (k + 1) (hAdd h (f x) (f (x + 1)) (f (x + 2))) else (h, k)
theorem f_dfs_s {f : Int → Int} {sz i : Int} {r k : Nat} {h : StR} : f_dfs f sz i (r + 1) k h = if h 10 < 7 ∧ 0 ≤ i + 3 * (k : Int) ∧ i + 3 * (k : Int) + 3 ≤ sz ∧ (0 ≤ f (i + 3 * k) ∧ f (i + 3 * k) ≤ 8) ∧ (1 ≤ f (i + 3 * k + 1) ∧ f (i + 3 * k + 1) ≤ 8) ∧ (0 ≤ f (i + 3 * k + 2) ∧ f (i + 3 * k + 2) ≤ 9) then f_dfs f sz i r (k + 1) (hAdd h (f (i + 3 * k)) (f (i + 3 * k + 1)) (f (i + 3 * k + 2))) else (h, k) := rfl
theorem f_dfs_ok {f : Int → Int} {sz i : Int} : ∀ {r k : Nat} {h : StR}, hOk h → hOk (f_dfs f sz i r k h).1 ∧ h 10 ≤ (f_dfs f sz i r k h).1 10 ∧ k ≤ (f_dfs f sz i r k h).2 ∧ (f_dfs f sz i r k h).2 ≤ k + r ∧ ((f_dfs f sz i r k h).2 = k → (f_dfs f sz i r k h).1 = h) := by
  intro r
  induction r with
  | zero => intro k h hk; exact ⟨hk, Int.le_refl _, Nat.le_refl _, Nat.le_refl _, fun _ => rfl⟩
  | succ r ih =>
    intro k h hk
    rw [f_dfs_s]
    split
    · rename_i c
      have := ih (k := k + 1) (hAdd_ok hk c.1 c.2.2.2.1 c.2.2.2.2.1 c.2.2.2.2.2)
      rw [hAdd_10] at this
      exact ⟨this.1, by omega, by omega, by omega, fun z => by omega⟩
    · exact ⟨hk, Int.le_refl _, Nat.le_refl _, by omega, fun _ => rfl⟩
section
variable {d : Nat} {m : AMem} {Q : Option AV → AMem → Prop}
theorem wl_i {z : Int} (h1 : -9223372036854775808 ≤ z) (h2 : z < 9223372036854775808) : w64 z = z := wl_id ⟨h1, h2⟩
theorem lc_gt0 {x y : Int} : 0 < lc x y ↔ y < x := by
  unfold lc
  split
  · omega
  · split <;> omega
theorem lc_ge0 {x y : Int} : 0 ≤ lc x y ↔ y ≤ x := by
  unfold lc
  split
  · omega
  · split <;> omega
set_option maxHeartbeats 2000000 in
theorem pr_defenders {a i n : Int} (hr : ri i) (hS : InvS m) (hI : InvH m) (hst : 0 ≤ m 2 0 6 ∧ m 2 0 6 ≤ 100000)
    (hQ : ∀ x m1, MtX yX12_defenders cX12_defenders 8 (some .int) (d + 4) [vr 12 0, vi a, vi i, vi n] m1 (fun r m2 => r = some (vi x) ∧ InvH m2 ∧ FrM wHh m m2 ∧ m 12 0 1 ≤ m2 12 0 1 ∧ StP m m2) → Q (some (vi x)) m1) : MtX yX11_defenders cX11_defenders 5 (some .int) (d + 4) [vr 11 0, vi a, vi i, vi n] m Q := by
  obtain ⟨q1, q2, q3⟩ := inv_h hI
  have hN := hI.1
  have hr1 := hr.1
  have hr2 := hr.2
  have bad : ∀ x, ((x = -1 ∧ ¬ ((0 ≤ a ∧ a ≤ 5) ∧ 1 ≤ n ∧ n ≤ 7)) ∨ ((0 ≤ a ∧ a ≤ 5) ∧ (1 ≤ n ∧ n ≤ 7) ∧ ((m 1359 0 a = -1 ∧ x = 0) ∨ (m 1359 0 a ≠ -1 ∧ m 1359 0 a ≠ -2 ∧ x = -12)))) → Q (some (vi x)) m := by
    intro x hx
    have no : ∀ y : Int, y = x → rk (some .int) (some (vi y)) ∧ some (vi y) = some (vi x) ∧ InvH m ∧ FrM wHh m m ∧ m 12 0 1 ≤ m 12 0 1 ∧ StP m m := fun y hy => ⟨trivial, by rw [hy], hI, FrM_refl _ _, Int.le_refl _, Or.inl rfl⟩
    exact hQ _ _ (Y_met rfl 4 rfl (sg_X12_defenders_0 _ _ _ _ _ (cm_isShelf fun y hy => ⟨y, rfl, fun c => no _ (by omega), fun c => cm_in fun z hz => ⟨z, rfl, fun c2 => ⟨by omega, fun c3 => ⟨by omega, fun c4 => absurd c3 c4, fun _ => no _ (by omega)⟩, fun c3 => ⟨by omega, fun c4 => by omega, fun c4 => no _ (by omega)⟩⟩, fun c2 => no _ (by omega)⟩⟩)))
  refine Y_met rfl 1 rfl (sg_X11_defenders_0 _ _ _ _ _ (cc_noSuchShelf fun x hx => ⟨x, rfl, fun c => ⟨trivial, bad _ (by omega)⟩, fun c => ⟨fun c2 => ⟨trivial, bad _ (by omega)⟩, fun c2 => ⟨fun c3 => ⟨by omega, ?_⟩, fun c3 => ⟨trivial, bad _ (by omega)⟩⟩⟩⟩))
  have ha : 0 ≤ a ∧ a ≤ 5 := by omega
  have hs := invS_at hS ha
  refine cc_isEmpty fun y hy => ⟨y, rfl, fun c4 => ?_, fun c4 => ⟨trivial, bad _ (by omega)⟩⟩
  refine Y_met rfl 0 rfl (sg_X10_holdsBytes_0 _ _ _ ?_)
  have go : m 1359 0 a = -2 → MtX yX11_addFrom cX11_addFrom 12 (some .int) (d + 3) [vr 11 0, vr 10 a.toNat, vi i, vi n] m (fun r m15 => ∃ x17 : Int, r = some (vi x17) ∧ (rk (some .int) (some (vi x17)) ∧ Q (some (vi x17)) m15)) := by
    intro hb
    generalize hfd : (fun x => m 1361 0 (60 * a + x)) = f
    have hf : ∀ x, m 1361 0 (60 * a + x) = f x := fun x => by rw [← hfd]
    have hsz := hs.2.1
    generalize hszd : m 1360 0 a = sz at hsz
    have hfr : ∀ x, 0 ≤ x → x < 60 → -128 ≤ f x ∧ f x ≤ 127 := fun x g0 g1 => by
      have := hs.2.2 x g0 g1
      have h2 := this.2 hb
      rw [this.1, hf] at h2
      exact h2
    -- the reference
    have fin : ∀ (m2 : AMem), FrM wHf m m2 → hcR m2 (f_dfs f sz i n.toNat 0 (hOf m)).1 → m2 2 0 6 = m 2 0 6 + (f_dfs f sz i n.toNat 0 (hOf m)).2 → m2 2 0 7 = m 2 0 7 → ((f_dfs f sz i n.toNat 0 (hOf m)).2 = 0 → m2 = m) → Q (some (vi (f_dfs f sz i n.toNat 0 (hOf m)).2)) m2 := by
      intro m2 hF2 hR2 h6 h7 h00
      have hok := f_dfs_ok (f := f) (sz := sz) (i := i) (r := n.toNat) (k := 0) q3
      have hb2 : m2 1359 0 a = -2 := by rw [FrM_n hF2 (by decide) (by decide)]; exact hb
      refine hQ _ _ (Y_met rfl 4 rfl (sg_X12_defenders_0 _ _ _ _ _ (cm_isShelf fun y hy => ⟨y, rfl, fun c => by omega, fun c => cm_in fun z hz => ⟨z, rfl, fun c2 => ⟨by omega, fun c3 => by omega, fun c3 => ⟨by omega, fun _ => ⟨by omega, fun _ => ?_, fun c5 => by omega⟩, fun c5 => by omega⟩⟩, fun c2 => by omega⟩⟩)))
      generalize hG : f_dfs f sz i n.toNat 0 (hOf m) = G at *
      have key : ∀ (r k : Nat) (h : StR) (mm : AMem), ((k + r : Nat) : Int) = n → FrM wHm m2 mm → hmR mm h → hOk h → f_dfs f sz i r k h = G → ((k = 0 → mm = m2)) → Y cX12_defenders 8 RX12 (d + 4) none 58 [some (vr 12 0), some (vi a), some (vi i), some (vi n), some (vi k), none, none, none] [] mm (fun r mem2 => rk (some .int) r ∧ r = some (vi G.2) ∧ InvH mem2 ∧ FrM wHh m mem2 ∧ m 12 0 1 ≤ mem2 12 0 1 ∧ StP m mem2) := by
        intro r
        induction r with
        | zero =>
          intro k h mm hk hF hR hok2 he hk0
          have he : (h, k) = G := he
          refine sg_X12_defenders_58 _ _ _ _ _ _ ⟨fun _ => ?_, fun c => by omega⟩
          subst he
          refine ⟨trivial, by rw [show n = (k : Int) by omega], h_inv (hcR_fr hF (by decide) hR2) hR hok2, FrM_trans (FrM_mono hF2 (by decide)) (FrM_mono hF (by decide)), ?_, Or.inr ⟨?_, ?_, ?_⟩⟩
          · rw [hR.1]
            have := hok.2.1
            rw [hOf_10] at this
            have h9 : (h, k).1 10 = h 10 := rfl
            omega
          · rw [FrM_n hF (by decide) (by decide), h6]; show m 2 0 6 < m 2 0 6 + ((k : Nat) : Int); omega
          · rw [FrM_n hF (by decide) (by decide), h6]; show m 2 0 6 + ((k : Nat) : Int) ≤ m 2 0 6 + 8; omega
          · rw [FrM_n hF (by decide) (by decide), h7]
        | succ r ih =>
          intro k h mm hk hF hR hok2 he hk0
          have stop : ¬ (h 10 < 7 ∧ 0 ≤ i + 3 * (k : Int) ∧ i + 3 * (k : Int) + 3 ≤ sz ∧ (0 ≤ f (i + 3 * k) ∧ f (i + 3 * k) ≤ 8) ∧ (1 ≤ f (i + 3 * k + 1) ∧ f (i + 3 * k + 1) ≤ 8) ∧ (0 ≤ f (i + 3 * k + 2) ∧ f (i + 3 * k + 2) ≤ 9)) → (rk (some .int) (some (vi (k : Int))) ∧ some (vi (k : Int)) = some (vi (G.2 : Int)) ∧ InvH mm ∧ FrM wHh m mm ∧ m 12 0 1 ≤ mm 12 0 1 ∧ StP m mm) := by
            intro c
            rw [f_dfs_s, if_neg c] at he
            subst he
            refine ⟨trivial, rfl, h_inv (hcR_fr hF (by decide) hR2) hR hok2, FrM_trans (FrM_mono hF2 (by decide)) (FrM_mono hF (by decide)), ?_, ?_⟩
            · rw [hR.1]
              have := hok.2.1
              rw [hOf_10] at this
              have h9 : (h, k).1 10 = h 10 := rfl
              omega
            · by_cases e : k = 0
              · left
                rw [hk0 e, h00 e]
              · refine Or.inr ⟨?_, ?_, ?_⟩
                · rw [FrM_n hF (by decide) (by decide), h6]; show m 2 0 6 < m 2 0 6 + ((k : Nat) : Int); omega
                · rw [FrM_n hF (by decide) (by decide), h6]; show m 2 0 6 + ((k : Nat) : Int) ≤ m 2 0 6 + 8; omega
                · rw [FrM_n hF (by decide) (by decide), h7]
          have e61 : ∀ x, mm 1361 0 x = m 1361 0 x := fun x => by rw [FrM_n hF (by decide) (by decide), FrM_n hF2 (by decide) (by decide)]
          have e60 : mm 1360 0 a = sz := by rw [FrM_n hF (by decide) (by decide), FrM_n hF2 (by decide) (by decide)]; exact hszd
          refine sg_X12_defenders_58 _ _ _ _ _ _ ⟨fun c => by omega, fun _ => ?_⟩
          rw [w32i (z := 3 * (k : Int)) (by omega) (by omega), wl_i (z := i + 3 * (k : Int)) (by omega) (by omega), wl_i (z := i + 3 * (k : Int) + 2) (by omega) (by omega), lcx_lt, lc_ge0, e60]
          have e12 : mm 12 0 1 = h 10 := hR.1
          have hc10 := hok2.1
          refine ⟨fun c => stop (by omega), fun c => ⟨by omega, fun c2 => stop (by omega), fun c2 => ⟨fun c3 => ?_, fun c3 => stop (by omega)⟩⟩⟩
          have hx0 : 0 ≤ i + 3 * (k : Int) ∧ i + 3 * (k : Int) + 2 < 60 := by omega
          rw [w32i (z := i + 3 * (k : Int)) (by omega) (by omega), w32i (z := 60 * a) (by omega) (by omega), w32i (z := 60 * a + (i + 3 * (k : Int))) (by omega) (by omega), w32i (z := 60 * a + (i + 3 * (k : Int)) + 1) (by omega) (by omega), w32i (z := 60 * a + (i + 3 * (k : Int)) + 2) (by omega) (by omega)]
          have g0 := hfr (i + 3 * (k : Int)) (by omega) (by omega)
          have g1 := hfr (i + 3 * (k : Int) + 1) (by omega) (by omega)
          have g2 := hfr (i + 3 * (k : Int) + 2) (by omega) (by omega)
          have f0 : w32 (m 1361 0 (60 * a + (i + 3 * (k : Int)))) = f (i + 3 * k) := by rw [hf]; exact w32i (by omega) (by omega)
          have f1 : w32 (m 1361 0 (60 * a + (i + 3 * (k : Int)) + 1)) = f (i + 3 * k + 1) := by rw [Int.add_assoc (60 * a), hf]; exact w32i (by omega) (by omega)
          have f2 : w32 (m 1361 0 (60 * a + (i + 3 * (k : Int)) + 2)) = f (i + 3 * k + 2) := by rw [Int.add_assoc (60 * a), hf]; exact w32i (by omega) (by omega)
          rw [e61, f0]
          refine ⟨by omega, cm_isColumn fun u hu => ⟨u, rfl, fun c4 => stop (by clear f0 f1 f2; omega), fun c4 => ⟨by clear f0 f1 f2; omega, ?_⟩⟩⟩
          rw [e61, f1]
          refine cm_isRow fun v hv => ⟨v, rfl, fun c5 => stop (by clear f0 f1 f2; omega), fun c5 => ⟨by clear f0 f1 f2; omega, ?_⟩⟩
          rw [e61, f2]
          refine cm_in fun w hw => ⟨w, rfl, fun c6 => ⟨by clear f0 f1 f2; omega, by clear f0 f1 f2; omega, by clear f0 f1 f2; omega, ?_⟩, fun c6 => stop (by clear f0 f1 f2; omega)⟩
          rw [e61, e61, e61, f0, f1, f2]
          clear f0 f1 f2
          have hc := hok2.1
          have hcond : h 10 < 7 ∧ 0 ≤ i + 3 * (k : Int) ∧ i + 3 * (k : Int) + 3 ≤ sz ∧ (0 ≤ f (i + 3 * k) ∧ f (i + 3 * k) ≤ 8) ∧ (1 ≤ f (i + 3 * k + 1) ∧ f (i + 3 * k + 1) ≤ 8) ∧ (0 ≤ f (i + 3 * k + 2) ∧ f (i + 3 * k + 2) ≤ 9) := by omega
          rw [f_dfs_s, if_pos hcond] at he
          refine cm_add hok2 hcond.1 hR fun m4 hF4 hR4 => ⟨_, rfl, ?_⟩
          have := ih (k + 1) _ m4 (by omega) (FrM_trans hF hF4) hR4 (hAdd_ok hok2 hcond.1 hcond.2.2.2.1 hcond.2.2.2.2.1 hcond.2.2.2.2.2) he (fun z => by omega)
          rw [w32n (by omega)]
          exact Y_fg (by exact ⟨rfl, rfl, rfl, rfl, rfl, trivial⟩) this
      have := key n.toNat 0 (hOf m) m2 (by omega) (FrM_refl _ _) (hmR_fr hF2 (by decide) q2) q3 hG (fun _ => rfl)
      exact this
    -- the class
    generalize hG : f_dfs f sz i n.toNat 0 (hOf m) = G at fin
    have hok := f_dfs_ok (f := f) (sz := sz) (i := i) (r := n.toNat) (k := 0) q3
    rw [hG] at hok
    have key : ∀ (r k : Nat) (h : StR) (mm : AMem), ((k + r : Nat) : Int) = n → FrM wHf m mm → hcR mm h → hOk h → mm 2 0 6 = m 2 0 6 + k → mm 2 0 7 = m 2 0 7 → f_dfs f sz i r k h = G → (k = 0 → mm = m) → Y cX11_addFrom 12 RX11 (d + 3) none 6 [some (vr 11 0), some (vr 10 a.toNat), some (vi i), some (vi n), some (vi k), some (vi (w32 (i + 3 * k))), none, none, none, none, none, none] [] mm (fun r m15 => rk (some .int) r ∧ ∃ x17 : Int, r = some (vi x17) ∧ (rk (some .int) (some (vi x17)) ∧ Q (some (vi x17)) m15)) := by
      intro r
      induction r with
      | zero =>
        intro k h mm hk hF hR hok2 h6 h7 he hk0
        have he : (h, k) = G := he
        subst he
        exact sg_X11_addFrom_6 _ _ _ _ _ _ _ ⟨fun _ => ⟨trivial, _, rfl, trivial, fin mm hF hR h6 h7 hk0⟩, fun c => by omega⟩
      | succ r ih =>
        intro k h mm hk hF hR hok2 h6 h7 he hk0
        have hc := hok2.1
        have stop : ¬ (h 10 < 7 ∧ 0 ≤ i + 3 * (k : Int) ∧ i + 3 * (k : Int) + 3 ≤ sz ∧ (0 ≤ f (i + 3 * k) ∧ f (i + 3 * k) ≤ 8) ∧ (1 ≤ f (i + 3 * k + 1) ∧ f (i + 3 * k + 1) ≤ 8) ∧ (0 ≤ f (i + 3 * k + 2) ∧ f (i + 3 * k + 2) ≤ 9)) → (rk (some .int) (some (vi (k : Int))) ∧ ∃ x17 : Int, some (vi (k : Int)) = some (vi x17) ∧ (rk (some .int) (some (vi x17)) ∧ Q (some (vi x17)) mm)) := by
          intro c
          rw [f_dfs_s, if_neg c] at he
          subst he
          exact ⟨trivial, _, rfl, trivial, fin mm hF hR h6 h7 hk0⟩
        have e10 : mm 10 a.toNat 1 = sz := by rw [FrM_n hF (by decide) (by decide), hsz.2.2]
        have e11 : ∀ x, 0 ≤ x → x < 60 → mm 1100 a.toNat x = f x := fun x g0 g1 => by rw [FrM_n hF (by decide) (by decide), (hs.2.2 x g0 g1).1, hf]
        refine sg_X11_addFrom_6 _ _ _ _ _ _ _ ⟨fun c => by omega, fun _ => cc_isFullH hR fun u hu => ⟨u, rfl, fun c => stop (by omega), fun c => ?_⟩⟩
        have hw : w32 (i + 3 * (k : Int)) = i + 3 * k ∨ (w32 (i + 3 * (k : Int)) < 0 ∧ 60 < i + 3 * (k : Int)) := by
          by_cases hb : i + 3 * (k : Int) < 2147483648
          · left; exact w32i (by omega) hb
          · right; rw [w32e]; omega
        refine cc_reaches ⟨by decide, by decide⟩ (by omega) fun v hv => ⟨v, rfl, fun c2 => stop (by rw [e10] at hv; omega), fun c2 => ?_⟩
        rw [e10] at hv
        have hw : w32 (i + 3 * (k : Int)) = i + 3 * k := by omega
        rw [hw] at hv ⊢
        have hb : 0 ≤ i + 3 * (k : Int) ∧ i + 3 * (k : Int) + 3 ≤ sz := by omega
        clear hw
        rw [w32i (z := i + 3 * (k : Int) + 1) (by omega) (by omega), w32i (z := i + 3 * (k : Int) + 2) (by omega) (by omega), e11 _ (by omega) (by omega), e11 _ (by omega) (by omega), e11 _ (by omega) (by omega), lcx_lt, lc_gt0, lcx_lt, lc_gt0, lcx_lt, lcx_le]
        rw [show (romL 2000).getD (Int.toNat 2) 0 = 9 by decide +kernel]
        refine ⟨by omega, by omega, by omega, fun c3 => stop (by omega), fun c3 => ⟨fun c4 => stop (by omega), fun c4 => ⟨fun c5 => stop (by omega), fun c5 => ⟨fun c6 => stop (by omega), fun c6 => ⟨fun c7 => stop (by omega), fun c7 => ⟨by decide, fun c8 => ?_, fun c8 => stop (by omega)⟩⟩⟩⟩⟩⟩
        have hcond : h 10 < 7 ∧ 0 ≤ i + 3 * (k : Int) ∧ i + 3 * (k : Int) + 3 ≤ sz ∧ (0 ≤ f (i + 3 * k) ∧ f (i + 3 * k) ≤ 8) ∧ (1 ≤ f (i + 3 * k + 1) ∧ f (i + 3 * k + 1) ≤ 8) ∧ (0 ≤ f (i + 3 * k + 2) ∧ f (i + 3 * k + 2) ≤ 9) := by omega
        rw [f_dfs_s, if_pos hcond] at he
        rw [w32i (z := f (i + 3 * (k : Int))) (by omega) (by omega), w32i (z := f (i + 3 * (k : Int) + 1)) (by omega) (by omega), w32i (z := f (i + 3 * (k : Int) + 2)) (by omega) (by omega)]
        refine cc_add hok2 hcond.1 hR (by omega) fun m4 hF4 hR4 h64 h74 => ⟨_, rfl, ?_⟩
        have := ih (k + 1) _ m4 (by omega) (FrM_trans hF hF4) hR4 (hAdd_ok hok2 hcond.1 hcond.2.2.2.1 hcond.2.2.2.2.1 hcond.2.2.2.2.2) (by omega) (by rw [h74]; exact h7) he (fun z => by omega)
        rw [w32n (by omega), show i + 3 * (k : Int) + 3 = i + 3 * ((k + 1 : Nat) : Int) by omega]
        exact Y_fg (by exact ⟨rfl, rfl, rfl, rfl, rfl, rfl, trivial⟩) this
    have h0 := key n.toNat 0 (hOf m) m (by omega) (FrM_refl _ _) q1 q3 (by omega) rfl hG (fun _ => rfl)
    rw [show w32 (i + 3 * ((0 : Nat) : Int)) = i by rw [w32i (by omega) (by omega)]; omega] at h0
    exact Y_met rfl 8 rfl (sg_X11_addFrom_0 _ _ _ _ _ h0)
  have big : ∀ x : Int, (x = 1 ∧ m 1359 0 a = -2 ∨ x = 0 ∧ m 1359 0 a ≠ -2) → ((x = 0 ∨ x = 1) ∧ ∃ x13 : Int, some (vi x) = some (vi x13) ∧ ((x13 = 0 → rk (some .int) (some (vi (-12))) ∧ Q (some (vi (-12))) m) ∧ (¬ x13 = 0 → MtX yX11_addFrom cX11_addFrom 12 (some .int) (d + 3) [vr 11 0, vr 10 a.toNat, vi i, vi n] m (fun r m15 => ∃ x17 : Int, r = some (vi x17) ∧ (rk (some .int) (some (vi x17)) ∧ Q (some (vi x17)) m15))))) := fun x hx => ⟨by omega, x, rfl, fun c => ⟨trivial, bad _ (by omega)⟩, fun c => go (by omega)⟩
  exact ⟨fun c => big 0 (by omega), fun c => ⟨fun c2 => big 0 (by omega), fun c2 => big 1 (by omega)⟩⟩
end
