/-! deeds -/
theorem hIn_ok {h : StR} {b : Int} (hk : hOk h) (hb : 0 ≤ b ∧ b < 128) (hz : ∀ i : Int, h 10 ≤ i → i < 7 → tbt b i = 0) : hOk (upS h 11 b) := by
  obtain ⟨c1, c2, c3, c4, c5⟩ := hk
  unfold hOk
  rw [upS_n (k := 10) (by decide), upS_s]
  refine ⟨c1, hb, fun i g0 g1 => ?_, hz, fun w g0 g1 => ?_⟩
  · rw [upS_n (by omega), upS_n (by omega), upS_n (by omega)]; exact c3 i g0 g1
  · rw [upS_n (by omega)]; exact c5 w g0 g1
theorem hmR_in {m : AMem} {h : StR} {b : Int} (hk : hOk h) (h1 : m 12 0 1 = h 10) (h2 : ∀ i : Int, 0 ≤ i → i < h 10 → m 1302 0 i = h (20 + i) ∧ m 1303 0 i = h (30 + i) ∧ m 1304 0 i = h i ∧ m 1305 0 i = tbt b i) (h3 : ∀ w : Int, 4 ≤ w → w ≤ 13 → m 1306 0 (w - 4) = h (40 + w)) : hmR m (upS h 11 b) := by
  have hn := hk.1
  unfold hmR
  rw [upS_n (k := 10) (by decide), upS_s]
  refine ⟨h1, fun i g0 g1 => ?_, fun w g0 g1 => ?_⟩
  · rw [upS_n (by omega), upS_n (by omega), upS_n (by omega)]; exact h2 i g0 g1
  · rw [upS_n (by omega)]; exact h3 w g0 g1
/-- the half of the reference but who is in -/
theorem hmR_1305 {m m2 : AMem} {h : StR} {b : Int} (hk : hOk h) (hR : hmR m h) (hF : FrM [1305] m m2) (hb : ∀ i : Int, 0 ≤ i → i < h 10 → m2 1305 0 i = tbt b i) : hmR m2 (upS h 11 b) := by
  obtain ⟨a1, a2, a3⟩ := hR
  refine hmR_in hk (by rw [hF 12 0 1 (by decide)]; exact a1) (fun i g0 g1 => ?_) (fun w g0 g1 => by rw [FrM_n hF (by decide) (by decide)]; exact a3 w g0 g1)
  rw [FrM_n hF (by decide) (by decide), FrM_n hF (by decide) (by decide), FrM_n hF (by decide) (by decide)]
  have := a2 i g0 g1
  exact ⟨this.1, this.2.1, this.2.2.1, hb i g0 g1⟩
section
variable {d : Nat} {m : AMem} {Q : Option AV → AMem → Prop}
theorem cc_everyb {h : StR} (hR : hcR m h) (hQ : Q (some (vi (ebB (h 10)))) m) : MtX yX2_everybody cX2_everybody 1 (some .int) (d + 1) [vr 2 0] m Q := by
  refine Y_met rfl 0 rfl (sg_X2_everybody_0 _ _ ?_)
  rw [hR.1]
  exact ⟨trivial, hQ⟩
theorem cc_letIn {h : StR} {b : Int} (hk : hOk h) (hR : hcR m h) (hst : 0 ≤ m 2 0 6 ∧ m 2 0 6 ≤ 200000) (hQ : ∀ m2, FrM [2] m m2 → hcR m2 (upS h 11 b) → m2 2 0 6 = m 2 0 6 + 1 → m2 2 0 7 = m 2 0 7 → Q none m2) : MtX yX2_letIn cX2_letIn 2 none (d + 1) [vr 2 0, vi b] m Q := by
  have hn := hk.1
  obtain ⟨a1, a2, a3, a4⟩ := hR
  refine Y_met rfl 0 rfl (sg_X2_letIn_0 _ _ _ ?_)
  rw [w32i (z := m 2 0 6 + 1) (by omega) (by omega)]
  refine ⟨trivial, hQ _ (FrM_uk (FrM_uk (FrM_refl _ _) (by decide) (by decide)) (by decide) (by decide)) ?_ (by simp [upM]) (by simp [upM])⟩
  unfold hcR
  rw [upS_n (k := 10) (by decide), upS_s]
  refine ⟨by simpa [upM] using a1, by simp [upM], fun i g0 g1 => ?_, fun w g0 g1 => ?_⟩
  · rw [upS_n (by omega), upS_n (by omega), upS_n (by omega)]; exact a3 i g0 g1
  · rw [upS_n (by omega)]; exact a4 w g0 g1
def wIn : List Nat := [2, 1305]
theorem pr_allIn (hI : InvH m) (hst : 0 ≤ m 2 0 6 ∧ m 2 0 6 ≤ 100000)
    (hQ : ∀ x m1, MtX yX12_allIn cX12_allIn 3 (some .int) (d + 3) [vr 12 0] m1 (fun r m2 => r = some (vi x) ∧ InvH m2 ∧ FrM wIn m m2 ∧ StP m m2) → Q (some (vi x)) m1) : MtX yX11_allIn cX11_allIn 3 (some .int) (d + 3) [vr 11 0] m Q := by
  obtain ⟨q1, q2, q3⟩ := inv_h hI
  have hn := q3.1
  have hb := q3.2.1
  have hpop := pop_rg hb.1 hb.2
  refine Y_met rfl 2 rfl (sg_X11_allIn_0 _ _ (cc_everyb q1 ⟨_, rfl, ?_⟩))
  rw [q1.2.1]
  refine cc_bitCount hb.1 hb.2 ⟨_, rfl, cc_letIn q3 q1 (by omega) fun m2 hF2 hR2 h6 h7 => ⟨rfl, trivial, ?_⟩⟩
  have e5 : m2 2 0 5 = hOf m 10 := by rw [hR2.1, upS_n (by decide)]
  rw [e5, w32i (z := hOf m 10 - popB (hOf m 11)) (by omega) (by omega)]
  have hm2 := hmR_fr hF2 (by decide) q2
  have hsm : ∀ k : Nat, k ≤ 7 → 0 ≤ smBt (hOf m 11) k ∧ smBt (hOf m 11) k ≤ k := by
    intro k
    induction k with
    | zero => intro _; exact ⟨Int.le_refl 0, Int.le_refl 0⟩
    | succ k ih =>
      intro hk
      have := ih (by omega)
      have := tb01 hb.1 hb.2 (i := k) (by omega) (by omega)
      rw [smB_s]
      omega
  have key : ∀ (r k : Nat) (mm : AMem), ((k + r : Nat) : Int) = hOf m 10 → FrM [1305] m2 mm → (∀ i : Int, 0 ≤ i → i < hOf m 10 → mm 1305 0 i = if i < k then 1 else tbt (hOf m 11) i) → Y cX12_allIn 3 RX12 (d + 3) none 4 [some (vr 12 0), some (vi ((k : Int) - smBt (hOf m 11) k)), some (vi k)] [] mm (fun r mem2 => rk (some .int) r ∧ r = some (vi (hOf m 10 - popB (hOf m 11))) ∧ InvH mem2 ∧ FrM wIn m mem2 ∧ StP m mem2) := by
    intro r
    induction r with
    | zero =>
      intro k mm hk hF hA
      have h1 : mm 12 0 1 = hOf m 10 := by rw [hF 12 0 1 (by decide)]; exact hm2.1
      refine sg_X12_allIn_4 _ _ _ _ ⟨fun _ => ⟨trivial, ?_, ?_, ?_, Or.inr ⟨?_, ?_, ?_⟩⟩, fun c => by omega⟩
      · rw [smB_pop (by omega) (fun i g0 g1 => q3.2.2.2.1 i (by omega) g1), show (k : Int) = hOf m 10 by omega]
      · refine h_inv (hcR_fr hF (by decide) hR2) (hmR_1305 (b := ebB (hOf m 10)) q3 hm2 hF fun i g0 g1 => ?_) (hIn_ok q3 (eb_all hn.1 hn.2).1 fun i g0 g1 => ?_)
        · rw [hA i g0 g1, tb_eb hn.1 hn.2 g0 (by omega), if_pos (by omega), if_pos g1]
        · rw [tb_eb hn.1 hn.2 (by omega) g1, if_neg (by omega)]
      · exact FrM_trans (FrM_mono hF2 (by decide)) (FrM_mono hF (by decide))
      · rw [FrM_n hF (by decide) (by decide), h6]; omega
      · rw [FrM_n hF (by decide) (by decide), h6]; omega
      · rw [FrM_n hF (by decide) (by decide), h7]
    | succ r ih =>
      intro k mm hk hF hA
      have h1 : mm 12 0 1 = hOf m 10 := by rw [hF 12 0 1 (by decide)]; exact hm2.1
      have h5 := hA k (by omega) (by omega)
      rw [if_neg (by omega)] at h5
      have hs := hsm k (by omega)
      have t01 := tb01 hb.1 hb.2 (i := k) (by omega) (by omega)
      refine sg_X12_allIn_4 _ _ _ _ ⟨fun c => by omega, fun _ => ⟨by omega, by omega, ?_⟩⟩
      rw [h5, w32i (z := 1 - tbt (hOf m 11) k) (by omega) (by omega), w32i (z := (k : Int) - smBt (hOf m 11) k + (1 - tbt (hOf m 11) k)) (by omega) (by omega), w32n (by omega)]
      have := ih (k + 1) (upM mm 1305 0 k 1) (by omega) (FrM_uk hF (by decide) (by decide)) fun i g0 g1 => by
        rw [up_eq]
        by_cases e : i = k
        · rw [if_pos e, if_pos (by omega)]
        · rw [if_neg e, hA i g0 g1]
          by_cases e2 : i < k
          · rw [if_pos e2, if_pos (by omega)]
          · rw [if_neg e2, if_neg (by omega)]
      rw [smB_s, show ((k + 1 : Nat) : Int) - (smBt (hOf m 11) k + tbt (hOf m 11) k) = (k : Int) - smBt (hOf m 11) k + (1 - tbt (hOf m 11) k) by omega] at this
      exact this
  refine hQ _ _ (Y_met rfl 2 rfl (sg_X12_allIn_0 _ _ ?_))
  have := key (hOf m 10).toNat 0 m2 (by omega) (FrM_refl _ _) (fun i g0 g1 => by rw [if_neg (by omega)]; exact (hm2.2.1 i g0 g1).2.2.2)
  exact this
def wIm : List Nat := [5, 601, 5051, 5052, 1353, 1354]
theorem pr_image (hI : InvH m) (hM : InvM m)
    (hQ : ∀ x m1, MtX yX12_image cX12_image 2 (some .int) (d + 3) [vr 12 0] m1 (fun r m2 => r = some (vi x) ∧ InvM m2 ∧ FrM wIm m m2) → Q (some (vi x)) m1) : MtX yX11_image cX11_image 1 (some .int) (d + 3) [vr 11 0] m Q := by
  obtain ⟨q1, q2, q3⟩ := inv_h hI
  have hn := q3.1
  have hb := q3.2.1
  obtain ⟨i1, i2, i3, i4⟩ := hM
  have hF0 : FrM [5, 601] m (upM (cpM m 601 0 0 600 0 0 5) 5 0 2 (m 2 0 4)) := FrM_uk (FrM_cp (FrM_refl _ _) (by decide) (by decide)) (by decide) (by decide)
  refine Y_met rfl 0 rfl (sg_X11_image_0 _ _ ?_)
  refine Y_met rfl 0 rfl (sg_X5_keepImage_0 _ _ ⟨by decide, cc_everyb (hcR_fr hF0 (by decide) q1) ⟨_, rfl, trivial, rfl, by decide, trivial, ?_⟩⟩)
  have hFa : FrM [5, 601] m (upM (upM (upM (cpM m 601 0 0 600 0 0 5) 5 0 2 (m 2 0 4)) 5 0 3 (ebB (hOf m 10))) 5 0 4 1) := FrM_uk (FrM_uk hF0 (by decide) (by decide)) (by decide) (by decide)
  have e2 : (upM (upM (upM (cpM m 601 0 0 600 0 0 5) 5 0 2 (m 2 0 4)) 5 0 3 (ebB (hOf m 10))) 5 0 4 1) 5 0 2 = hOf m 11 := by simp [upM]; exact q1.2.1
  have e3 : (upM (upM (upM (cpM m 601 0 0 600 0 0 5) 5 0 2 (m 2 0 4)) 5 0 3 (ebB (hOf m 10))) 5 0 4 1) 5 0 3 = ebB (hOf m 10) := by simp [upM]
  have e4 : (upM (upM (upM (cpM m 601 0 0 600 0 0 5) 5 0 2 (m 2 0 4)) 5 0 3 (ebB (hOf m 10))) 5 0 4 1) 5 0 4 = 1 := by simp [upM]
  have e6 : ∀ i : Int, 0 ≤ i → i < 5 → (upM (upM (upM (cpM m 601 0 0 600 0 0 5) 5 0 2 (m 2 0 4)) 5 0 3 (ebB (hOf m 10))) 5 0 4 1) 601 0 i = m 600 0 i := fun i g0 g1 => by
    show cpM m 601 0 0 600 0 0 5 601 0 i = _
    rw [cp_eq, if_pos (by omega)]
    congr 1
    omega
  generalize upM (upM (upM (cpM m 601 0 0 600 0 0 5) 5 0 2 (m 2 0 4)) 5 0 3 (ebB (hOf m 10))) 5 0 4 1 = ma at *
  have hm := hmR_fr hFa (by decide) q2
  have hc := hcR_fr hFa (by decide) q1
  have e0 : ma 600 0 0 = m 600 0 0 := FrM_n hFa (by decide) (by decide)
  rw [e0]
  refine hQ _ _ (Y_met rfl 1 rfl (sg_X12_image_0 _ _ ?_))
  have k2 : ∀ (r k : Nat) (mm : AMem), k + r = 5 → FrM [5051, 5052, 1353, 1354] ma mm → mm 12 0 51 = 1 → mm 12 0 52 = hOf m 10 → (∀ i : Int, 0 ≤ i → i < hOf m 10 → mm 1353 0 i = tbt (hOf m 11) i) → (∀ i : Int, 0 ≤ i → i < k → mm 1354 0 i = m 1350 0 i) → Y cX12_image 2 RX12 (d + 3) none 43 [some (vr 12 0), some (vi k)] [] mm (fun r mem2 => rk (some .int) r ∧ r = some (vi (m 600 0 0)) ∧ InvM mem2 ∧ FrM wIm m mem2) := by
    intro r
    induction r with
    | zero =>
      intro k mm hk hF h51 h52 h53 h54
      have e : k = 5 := by omega
      subst e
      have f50 : ∀ i, mm 1350 0 i = m 1350 0 i := fun i => by rw [FrM_n hF (by decide) (by decide), FrM_n hFa (by decide) (by decide)]
      have f60 : ∀ i, mm 600 0 i = m 600 0 i := fun i => by rw [FrM_n hF (by decide) (by decide), FrM_n hFa (by decide) (by decide)]
      have f61 : ∀ i, mm 601 0 i = ma 601 0 i := fun i => FrM_n hF (by decide) (by decide)
      have f5 : ∀ i, mm 5 0 i = ma 5 0 i := fun i => FrM_n hF (by decide) (by decide)
      have f1 : mm 12 0 1 = hOf m 10 := by rw [hF 12 0 1 (by decide)]; exact hm.1
      refine sg_X12_image_43 _ _ _ ⟨fun _ => ⟨by decide, trivial, by rw [f50, i1 0 (by decide) (by decide)], ?_, FrM_trans (FrM_mono hFa (by decide)) (FrM_mono hF (by decide))⟩, fun c => absurd (by decide) c⟩
      unfold InvM
      rw [h51, h52, f1, f5, f5, f5, e2, e3, e4]
      refine ⟨fun i g0 g1 => by rw [f60, f50]; exact i1 i g0 g1, Or.inr rfl, rfl, fun _ => ⟨by omega, fun i g0 g1 => ?_, ⟨hb.1, hb.2, (eb_all hn.1 hn.2).1⟩, fun i g0 g1 => ⟨fun g2 => ?_, fun g2 => ?_⟩⟩⟩
      · rw [f61, e6 i g0 g1, h54 i g0 g1]; exact i1 i g0 g1
      · rw [tb_eb hn.1 hn.2 g0 g1, if_pos g2, h53 i g0 g2]
        exact ⟨rfl, rfl, tb01 hb.1 hb.2 g0 g1⟩
      · rw [tb_eb hn.1 hn.2 g0 g1, if_neg (by omega)]
        exact ⟨rfl, q3.2.2.2.1 i g2 g1⟩
    | succ r ih =>
      intro k mm hk hF h51 h52 h53 h54
      refine sg_X12_image_43 _ _ _ ⟨fun c => by omega, fun _ => ⟨by omega, by omega, ?_⟩⟩
      rw [w32n (by omega)]
      refine ih (k + 1) _ (by omega) (FrM_uk hF (by decide) (by decide)) (by rw [up_k (by decide)]; exact h51) (by rw [up_k (by decide)]; exact h52) (fun i g0 g1 => by rw [up_k (by decide)]; exact h53 i g0 g1) fun i g0 g1 => ?_
      rw [up_eq]
      by_cases e : i = k
      · rw [if_pos e, e, FrM_n hF (by decide) (by decide), FrM_n hFa (by decide) (by decide)]
      · rw [if_neg e]; exact h54 i g0 (by omega)
  have k1 : ∀ (r k : Nat) (mm : AMem), ((k + r : Nat) : Int) = hOf m 10 → FrM [5051, 5052, 1353, 1354] ma mm → mm 12 0 51 = 1 → mm 12 0 52 = hOf m 10 → (∀ i : Int, 0 ≤ i → i < k → mm 1353 0 i = tbt (hOf m 11) i) → Y cX12_image 2 RX12 (d + 3) none 15 [some (vr 12 0), some (vi k)] [] mm (fun r mem2 => rk (some .int) r ∧ r = some (vi (m 600 0 0)) ∧ InvM mem2 ∧ FrM wIm m mem2) := by
    intro r
    induction r with
    | zero =>
      intro k mm hk hF h51 h52 h53
      have f1 : mm 12 0 1 = hOf m 10 := by rw [hF 12 0 1 (by decide)]; exact hm.1
      refine sg_X12_image_15 _ _ _ ⟨fun _ => ?_, fun c => by omega⟩
      have := k2 5 0 mm (by decide) hF h51 h52 (fun i g0 g1 => h53 i g0 (by omega)) (fun i g0 g1 => by omega)
      exact this
    | succ r ih =>
      intro k mm hk hF h51 h52 h53
      have f1 : mm 12 0 1 = hOf m 10 := by rw [hF 12 0 1 (by decide)]; exact hm.1
      refine sg_X12_image_15 _ _ _ ⟨fun c => by omega, fun _ => ⟨by omega, by omega, ?_⟩⟩
      rw [w32n (by omega)]
      refine ih (k + 1) _ (by omega) (FrM_uk hF (by decide) (by decide)) (by rw [up_k (by decide)]; exact h51) (by rw [up_k (by decide)]; exact h52) fun i g0 g1 => ?_
      rw [up_eq]
      by_cases e : i = k
      · rw [if_pos e, e, FrM_n hF (by decide) (by decide)]; exact (hm.2.1 k (by omega) (by omega)).2.2.2
      · rw [if_neg e]; exact h53 i g0 (by omega)
  have e1 : ma 12 0 1 = hOf m 10 := hm.1
  have := k1 (hOf m 10).toNat 0 (upM (upM ma 12 0 51 1) 12 0 52 (ma 12 0 1)) (by omega) (FrM_up (FrM_up (FrM_refl _ _) (by decide)) (by decide)) (by simp [upM]) (by simp [upM, e1]) (fun i g0 g1 => by omega)
  exact this
def wBk : List Nat := [2, 600, 1305, 1350]
theorem pr_back (hI : InvH m) (hM : InvM m) (hst : 0 ≤ m 2 0 6 ∧ m 2 0 6 ≤ 100000)
    (hQ : ∀ x m1, MtX yX12_back cX12_back 2 (some .int) (d + 3) [vr 12 0] m1 (fun r m2 => r = some (vi x) ∧ InvH m2 ∧ InvM m2 ∧ FrM wBk m m2 ∧ StP m m2) → Q (some (vi x)) m1) : MtX yX11_back cX11_back 1 (some .int) (d + 3) [vr 11 0] m Q := by
  obtain ⟨q1, q2, q3⟩ := inv_h hI
  have hn := q3.1
  have hb := q3.2.1
  have hM0 := hM
  obtain ⟨i1, i2, i3, i4⟩ := hM
  refine Y_met rfl 0 rfl (sg_X11_back_0 _ _ ?_)
  refine Y_met rfl 0 rfl (sg_X5_layBack_0 _ _ ⟨fun c => ⟨by rw [c]; exact Or.inl rfl, _, rfl, fun _ => ⟨trivial, hQ _ _ ?_⟩, fun c2 => absurd c c2⟩, fun c => ⟨by decide, ?_⟩⟩)
  · exact Y_met rfl 1 rfl (sg_X12_back_0 _ _ ⟨fun c2 => by omega, fun _ => ⟨trivial, rfl, hI, hM0, FrM_refl _ _, Or.inl rfl⟩⟩)
  · have h1 : m 5 0 4 = 1 := by omega
    obtain ⟨j1, j2, ⟨j3, j4, j5, j6⟩, j7⟩ := i4 h1
    have hn12 : hOf m 10 = m 12 0 1 := by rw [hOf_10]; exact hI.1.2.2
    have hF0 : FrM [600] m (cpM m 600 0 0 601 0 0 5) := FrM_cp (FrM_refl _ _) (by decide) (by decide)
    have e60 : ∀ i : Int, 0 ≤ i → i < 5 → cpM m 600 0 0 601 0 0 5 600 0 i = m 1354 0 i := fun i g0 g1 => by
      rw [cp_eq, if_pos (by omega), ← j2 i g0 g1]
      congr 1
      omega
    rw [q1.2.1]
    have eb : an32 (hOf m 11) (xo32 (m 5 0 3) (-1)) = mnB (hOf m 11) (m 5 0 3) := rfl
    rw [eb]
    have r1 := mn_rg hb.1 hb.2 j5 j6
    have r2 := or2_rg r1.1 r1.2 j3 j4
    have hbits : ∀ i : Int, 0 ≤ i → i < 7 → tbt (or_32 (mnB (hOf m 11) (m 5 0 3)) (m 5 0 2)) i = if i < m 12 0 52 then m 1353 0 i else tbt (hOf m 11) i := by
      intro i g0 g1
      rw [tb_or2 r1.1 r1.2 j3 j4 g0 g1, tb_mn hb.1 hb.2 j5 j6 g0 g1]
      have := j7 i g0 g1
      by_cases c : i < m 12 0 52
      · rw [if_pos c]
        have := this.1 c
        rw [this.1, this.2.1, if_pos rfl]
        split <;> omega
      · rw [if_neg c]
        have := this.2 (by omega)
        rw [this.1, this.2, if_neg (by decide), if_neg (by decide)]
    generalize or_32 (mnB (hOf m 11) (m 5 0 3)) (m 5 0 2) = B at *
    refine cc_letIn q3 (hcR_fr hF0 (by decide) q1) (by show 0 ≤ m 2 0 6 ∧ m 2 0 6 ≤ 200000; omega) fun m2 hF2 hR2 h6 h7 => ⟨rfl, ?_⟩
    have hFF : FrM [2, 600] m m2 := FrM_trans (FrM_mono hF0 (by decide)) (FrM_mono hF2 (by decide))
    have e54 : m2 5 0 4 = 1 := by rw [FrM_n hFF (by decide) (by decide)]; exact h1
    have e602 : ∀ i : Int, 0 ≤ i → i < 5 → m2 600 0 i = m 1354 0 i := fun i g0 g1 => by rw [FrM_n hF2 (by decide) (by decide)]; exact e60 i g0 g1
    rw [e54]
    refine ⟨Or.inr rfl, _, rfl, fun z => absurd z (by decide), fun _ => ⟨by decide, trivial, ?_⟩⟩
    rw [e602 0 (by decide) (by decide)]
    have hm2 := hmR_fr hFF (by decide) q2
    have f52 : m2 12 0 52 = m 12 0 52 := hFF 12 0 52 (by decide)
    have f51 : m2 12 0 51 = m 12 0 51 := hFF 12 0 51 (by decide)
    refine hQ _ _ (Y_met rfl 1 rfl (sg_X12_back_0 _ _ ⟨fun _ => ?_, fun c2 => by omega⟩))
    have k2 : ∀ (r k : Nat) (mm : AMem), k + r = 5 → FrM [1305, 1350] m2 mm → (∀ i : Int, 0 ≤ i → i < hOf m 10 → mm 1305 0 i = tbt B i) → (∀ i : Int, 0 ≤ i → i < k → mm 1350 0 i = m 1354 0 i) → Y cX12_back 2 RX12 (d + 3) none 40 [some (vr 12 0), some (vi k)] [] mm (fun r mem2 => rk (some .int) r ∧ r = some (vi (m 1354 0 0)) ∧ InvH mem2 ∧ InvM mem2 ∧ FrM wBk m mem2 ∧ StP m mem2) := by
      intro r
      induction r with
      | zero =>
        intro k mm hk hF h5 h50
        have e : k = 5 := by omega
        subst e
        refine sg_X12_back_40 _ _ _ ⟨fun _ => ⟨by decide, trivial, by rw [h50 0 (by decide) (by decide)], ?_, ?_, FrM_trans (FrM_mono hFF (by decide)) (FrM_mono hF (by decide)), Or.inr ⟨?_, ?_, ?_⟩⟩, fun c => absurd (by decide) c⟩
        · refine h_inv (hcR_fr hF (by decide) hR2) ?_ (hIn_ok q3 r2 fun i g0 g1 => ?_)
          · refine hmR_in q3 (by rw [hF 12 0 1 (by decide)]; exact hm2.1) (fun i g0 g1 => ?_) (fun w g0 g1 => by rw [FrM_n hF (by decide) (by decide)]; exact hm2.2.2 w g0 g1)
            rw [FrM_n hF (by decide) (by decide), FrM_n hF (by decide) (by decide), FrM_n hF (by decide) (by decide), h5 i g0 g1]
            have := hm2.2.1 i g0 g1
            exact ⟨this.1, this.2.1, this.2.2.1, rfl⟩
          · rw [hbits i (by omega) g1, if_neg (by omega)]
            exact q3.2.2.2.1 i g0 g1
        · have g5 : ∀ i, mm 5 0 i = m 5 0 i := fun i => by rw [FrM_n hF (by decide) (by decide), FrM_n hFF (by decide) (by decide)]
          have g601 : ∀ i, mm 601 0 i = m 601 0 i := fun i => by rw [FrM_n hF (by decide) (by decide), FrM_n hFF (by decide) (by decide)]
          have g53 : ∀ i, mm 1353 0 i = m 1353 0 i := fun i => by rw [FrM_n hF (by decide) (by decide), FrM_n hFF (by decide) (by decide)]
          have g54 : ∀ i, mm 1354 0 i = m 1354 0 i := fun i => by rw [FrM_n hF (by decide) (by decide), FrM_n hFF (by decide) (by decide)]
          have g1 : mm 12 0 1 = m 12 0 1 := by rw [hF 12 0 1 (by decide), hFF 12 0 1 (by decide)]
          have g51 : mm 12 0 51 = m 12 0 51 := by rw [hF 12 0 51 (by decide)]; exact f51
          have g52 : mm 12 0 52 = m 12 0 52 := by rw [hF 12 0 52 (by decide)]; exact f52
          unfold InvM
          simp only [g5, g601, g53, g54, g1, g51, g52]
          refine ⟨fun i g0 g1 => ?_, i2, i3, i4⟩
          rw [FrM_n hF (by decide) (by decide), e602 i g0 g1, h50 i g0 g1]
        · rw [FrM_n hF (by decide) (by decide), h6]; show m 2 0 6 < m 2 0 6 + 1; omega
        · rw [FrM_n hF (by decide) (by decide), h6]; show m 2 0 6 + 1 ≤ m 2 0 6 + 8; omega
        · rw [FrM_n hF (by decide) (by decide), h7]; rfl
      | succ r ih =>
        intro k mm hk hF h5 h50
        refine sg_X12_back_40 _ _ _ ⟨fun c => by omega, fun _ => ⟨by omega, by omega, ?_⟩⟩
        rw [w32n (by omega)]
        refine ih (k + 1) _ (by omega) (FrM_uk hF (by decide) (by decide)) (fun i g0 g1 => by rw [up_k (by decide)]; exact h5 i g0 g1) fun i g0 g1 => ?_
        rw [up_eq]
        by_cases e : i = k
        · rw [if_pos e, e, FrM_n hF (by decide) (by decide), FrM_n hFF (by decide) (by decide)]
        · rw [if_neg e]; exact h50 i g0 (by omega)
    have k1 : ∀ (r k : Nat) (mm : AMem), ((k + r : Nat) : Int) = m 12 0 52 → FrM [1305, 1350] m2 mm → (∀ i : Int, 0 ≤ i → i < hOf m 10 → mm 1305 0 i = if i < k then m 1353 0 i else tbt (hOf m 11) i) → Y cX12_back 2 RX12 (d + 3) none 12 [some (vr 12 0), some (vi k)] [] mm (fun r mem2 => rk (some .int) r ∧ r = some (vi (m 1354 0 0)) ∧ InvH mem2 ∧ InvM mem2 ∧ FrM wBk m mem2 ∧ StP m mem2) := by
      intro r
      induction r with
      | zero =>
        intro k mm hk hF h5
        have g52 : mm 12 0 52 = m 12 0 52 := by rw [hF 12 0 52 (by decide)]; exact f52
        refine sg_X12_back_12 _ _ _ ⟨fun _ => ?_, fun c => by omega⟩
        have := k2 5 0 mm (by decide) hF (fun i g0 g1 => by rw [h5 i g0 g1, hbits i g0 (by omega), show (k : Int) = m 12 0 52 by omega]) (fun i g0 g1 => by omega)
        exact this
      | succ r ih =>
        intro k mm hk hF h5
        have g52 : mm 12 0 52 = m 12 0 52 := by rw [hF 12 0 52 (by decide)]; exact f52
        refine sg_X12_back_12 _ _ _ ⟨fun c => by omega, fun _ => ⟨by omega, by omega, ?_⟩⟩
        rw [w32n (by omega)]
        refine ih (k + 1) _ (by omega) (FrM_uk hF (by decide) (by decide)) fun i g0 g1 => ?_
        rw [up_eq]
        by_cases e : i = k
        · rw [if_pos e, if_pos (by omega), e, FrM_n hF (by decide) (by decide), FrM_n hFF (by decide) (by decide)]
        · rw [if_neg e, h5 i g0 g1]
          by_cases e2 : i < k
          · rw [if_pos e2, if_pos (by omega)]
          · rw [if_neg e2, if_neg (by omega)]
    have := k1 (m 12 0 52).toNat 0 m2 (by omega) (FrM_refl _ _) (fun i g0 g1 => by rw [if_neg (by omega)]; exact (hm2.2.1 i g0 g1).2.2.2)
    exact this
theorem pr_count {w : Int} (hI : InvH m) (hC : InvC m) (hT : InvT m) (hB : InvBd m)
    (hQ : ∀ x m1, MtX yX12_count cX12_count 4 (some .int) (d + 3) [vr 12 0, vi w] m1 (fun r m2 => r = some (vi x) ∧ m2 = m) → Q (some (vi x)) m1) : MtX yX11_count cX11_count 2 (some .int) (d + 3) [vr 11 0, vi w] m Q := by
  obtain ⟨q1, q2, q3⟩ := inv_h hI
  have hn := q3.1
  have hb := q3.2.1
  have e0 : m 2 0 5 = m 12 0 1 := hI.1.2.2
  have e2 : m 4 0 1 = m 12 0 14 := hT.1.2.2
  have e3 : m 1 0 4 = m 12 0 7 := hC.1.2.2.2.1
  have e4 : m 0 0 2 = m 12 0 55 := hB.1.2.2
  have e5 : m 0 0 3 = m 12 0 57 := hB.2.2.1.2.2
  have fin : w ≠ 1 → ∀ x, (x = if w = 0 then m 12 0 1 else if w = 2 then m 12 0 14 else if w = 3 then m 12 0 7 else if w = 4 then m 12 0 55 else if w = 5 then m 12 0 57 else -1) → Q (some (vi x)) m := by
    intro hw x hx
    refine hQ _ _ (Y_met rfl 2 rfl (sg_X12_count_0 _ _ _ ?_))
    subst hx
    refine ⟨fun e => ?_, fun e => absurd e hw, fun e => ?_, fun e => ?_, fun e => ?_, fun e => ?_, fun e => ?_⟩
    · subst e; exact ⟨trivial, rfl, rfl⟩
    · subst e; exact ⟨trivial, rfl, rfl⟩
    · subst e; exact ⟨trivial, rfl, rfl⟩
    · subst e; exact ⟨trivial, rfl, rfl⟩
    · subst e; exact ⟨trivial, rfl, rfl⟩
    · rw [if_neg (by omega), if_neg (by omega), if_neg (by omega), if_neg (by omega), if_neg (by omega)]
      exact ⟨trivial, rfl, rfl⟩
  refine Y_met rfl 0 rfl (sg_X11_count_0 _ _ _ ?_)
  rw [e0, e2, e3, e4, e5]
  refine ⟨fun e => ⟨trivial, fin (by omega) _ (by rw [if_pos e])⟩, fun e => ?_, fun e => ⟨trivial, fin (by omega) _ (by subst e; rfl)⟩, fun e => ⟨trivial, fin (by omega) _ (by subst e; rfl)⟩, fun e => ⟨trivial, fin (by omega) _ (by subst e; rfl)⟩, fun e => ⟨trivial, fin (by omega) _ (by subst e; rfl)⟩, fun e => ⟨trivial, fin (by omega) _ (by rw [if_neg (by omega), if_neg (by omega), if_neg (by omega), if_neg (by omega), if_neg (by omega)])⟩⟩
  rw [q1.2.1]
  refine cc_bitCount hb.1 hb.2 ⟨_, rfl, trivial, hQ _ _ (Y_met rfl 2 rfl (sg_X12_count_0 _ _ _ ⟨fun c => by omega, fun _ => ?_, fun c => by omega, fun c => by omega, fun c => by omega, fun c => by omega, fun c => by omega⟩))⟩
  have hsm : ∀ k : Nat, k ≤ 7 → 0 ≤ smBt (hOf m 11) k ∧ smBt (hOf m 11) k ≤ k := by
    intro k
    induction k with
    | zero => intro _; exact ⟨Int.le_refl 0, Int.le_refl 0⟩
    | succ k ih =>
      intro hk
      have := ih (by omega)
      have := tb01 hb.1 hb.2 (i := k) (by omega) (by omega)
      rw [smB_s]
      omega
  have key : ∀ (r k : Nat), ((k + r : Nat) : Int) = hOf m 10 → Y cX12_count 4 RX12 (d + 3) none 49 [some (vr 12 0), some (vi w), some (vi (smBt (hOf m 11) k)), some (vi k)] [] m (fun r mem2 => rk (some .int) r ∧ r = some (vi (popB (hOf m 11))) ∧ mem2 = m) := by
    intro r
    induction r with
    | zero =>
      intro k hk
      refine sg_X12_count_49 _ _ _ _ _ ⟨fun _ => ⟨trivial, ?_, rfl⟩, fun c => by rw [q2.1] at c; omega⟩
      rw [smB_pop (by omega) (fun i g0 g1 => q3.2.2.2.1 i (by omega) g1)]
    | succ r ih =>
      intro k hk
      have hs := hsm k (by omega)
      have t01 := tb01 hb.1 hb.2 (i := k) (by omega) (by omega)
      refine sg_X12_count_49 _ _ _ _ _ ⟨fun c => by rw [q2.1] at c; omega, fun _ => ⟨by omega, ?_⟩⟩
      rw [(q2.2.1 k (by omega) (by omega)).2.2.2, w32i (z := smBt (hOf m 11) k + tbt (hOf m 11) k) (by omega) (by omega), w32n (by omega), ← smB_s]
      exact ih (k + 1) (by omega)
  have := key (hOf m 10).toNat 0 (by omega)
  exact this
end
