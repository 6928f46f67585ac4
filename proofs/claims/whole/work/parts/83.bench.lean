/-! judge and bench -/
section
variable {d : Nat} {m : AMem} {Q : Option AV → AMem → Prop}
theorem td_neg {z : Int} (h : z < 0) (h2 : -2147483648 ≤ z) : w32 (Int.tdiv z 10) < 1 := by
  have e : Int.tdiv z 10 = -(Int.tdiv (-z) 10) := by rw [← Int.neg_tdiv, Int.neg_neg]
  rw [e, tdiv10 (by omega), w32i (by omega) (by omega)]
  omega
theorem cc_notSizes {z : Int} (hz : ri z) (h : ∀ y : Int, (y = 0 ∧ okZ z ∨ y = 1 ∧ ¬ okZ z) → Q (some (vi y)) m) : MtX yX11_notSizes cX11_notSizes 3 (some .boolean) (d + 1) [vi z] m Q := by
  unfold ri at hz
  refine Y_met rfl 2 rfl (sg_X11_notSizes_0 _ _ _ ?_)
  by_cases c0 : 0 ≤ z
  · rw [tdiv10 c0, tmod10 c0, w32i (z := z / 10) (by omega) (by omega)]
    unfold okZ at h
    exact ⟨fun c => ⟨Or.inr rfl, h _ (by omega)⟩, fun c => ⟨fun c2 => ⟨Or.inr rfl, h _ (by omega)⟩, fun c2 => ⟨fun c3 => ⟨Or.inr rfl, h _ (by omega)⟩, fun c3 => ⟨fun c4 => ⟨Or.inl rfl, h _ (by omega)⟩, fun c4 => ⟨Or.inr rfl, h _ (by omega)⟩⟩⟩⟩⟩
  · have := td_neg (z := z) (by omega) (by omega)
    exact ⟨fun c => ⟨Or.inr rfl, h _ (Or.inr ⟨rfl, fun q => c0 q.1⟩)⟩, fun c => absurd this c⟩
theorem cm_areSizes {z : Int} (hz : ri z) (h : ∀ y : Int, (y = 1 ∧ okZ z ∨ y = 0 ∧ ¬ okZ z) → Q (some (vi y)) m) : MtX yX12_areSizes cX12_areSizes 1 (some .boolean) (d + 2) [vi z] m Q := by
  unfold ri at hz
  unfold okZ at h
  refine Y_met rfl 0 rfl (sg_X12_areSizes_0 _ _ _ ⟨fun c => ⟨Or.inl rfl, h _ (by omega)⟩, fun c => ?_⟩)
  rw [tdiv10 (by omega), tmod10 (by omega), w32i (z := z / 10) (by omega) (by omega)]
  exact cm_in fun y hy => ⟨y, rfl, fun q => ⟨Or.inl rfl, h _ (by omega)⟩, fun q => cm_in fun y2 hy2 => ⟨y2, rfl, fun q2 => ⟨Or.inl rfl, h _ (by omega)⟩, fun q2 => ⟨Or.inr rfl, h _ (by omega)⟩⟩⟩
def wJg : List Nat := [1000, 1001, 1002, 1003, 1345, 1346, 1347, 1348, 5049]
def tmOf (z : ShS) (w : Int) : TmS := if w = z.2.1 then z.2.2.1 else z.2.2.2.1
def scOf (z : ShS) (w : Int) : Int := if w = z.2.1 then z.2.2.2.2.1 else z.2.2.2.2.2
theorem ShR_at {cB cS cN cL : Nat} {m : AMem} {z : ShS} {w : Int} (h : ShR cB cS cN cL m z) (hw : w = 0 ∨ w = 1) : m cB 0 w = (tmOf z w).1 ∧ m cN 0 w = ((tmOf z w).2.length : Int) ∧ (0 < (tmOf z w).2.length → m cL 0 (7 * w) = (tmOf z w).2.getD 0 0) ∧ m cS 0 w = scOf z w := by
  unfold tmOf scOf
  obtain ⟨h1, h2, h3, h4⟩ := h
  by_cases c : w = z.2.1
  · rw [if_pos c, if_pos c, c]
    refine ⟨h2.1.1, h2.1.2.1, fun q => ?_, h3⟩
    have := h2.1.2.2 0 q
    rw [show 7 * z.2.1 + ((0 : Nat) : Int) = 7 * z.2.1 by omega] at this
    exact this
  · have e : w = 1 - z.2.1 := by omega
    rw [if_neg c, if_neg c, e]
    refine ⟨h2.2.1, h2.2.2.1, fun q => ?_, h4⟩
    have := h2.2.2.2 0 q
    rw [show 7 * (1 - z.2.1) + ((0 : Nat) : Int) = 7 * (1 - z.2.1) by omega] at this
    exact this
def shZ (m : AMem) (a z : Int) : ShS := rdT (fun j => m 1361 0 (60 * a + j)) (m 1360 0 a).toNat 0 (szA z) (szU z) 0 0
theorem shZ_f {m m2 : AMem} {a z : Int} (h : FrM wSh m m2) : shZ m2 a z = shZ m a z := by
  unfold shZ
  rw [FrM_f (k := 1361) (j := 0) h (by decide) (by decide), FrM_f (k := 1360) (j := 0) h (by decide) (by decide)]
theorem pr_judge {a z : Int} (hI : InvS m)
    (hQ : ∀ x m1, MtX yX12_judge cX12_judge 3 (some .int) (d + 5) [vr 12 0, vi a, vi z] m1 (fun r m2 => r = some (vi x) ∧ FrM wJg m m2) → Q (some (vi x)) m1) : MtX yX11_judge cX11_judge 4 (some .int) (d + 5) [vr 11 0, vi a, vi z] m Q := by
  refine MtX_wf fun _ hav => ?_
  have hz : ri z := hav (vi z) (by simp)
  refine Y_met rfl 1 rfl (sg_X11_judge_0 _ _ _ _ (cc_notSizes hz fun y hy => ⟨y, rfl, fun c => ?_, fun c => ⟨trivial, ?_⟩⟩))
  · have hk : okZ z := by
      rcases hy with q | q
      · exact q.2
      · exact absurd c (by omega)
    refine cc_refB hI fun x hx => ⟨x, rfl, fun c2 => ?_, fun c2 => ⟨trivial, ?_⟩⟩
    · have ha : 0 ≤ a ∧ a ≤ 5 := by unfold RfB at hx; omega
      have hb : m 1359 0 a = -2 := by unfold RfB at hx; omega
      refine ⟨by omega, cc_read hk hI ha hb fun m2 hF hR => ⟨_, rfl, trivial, hQ _ _ ?_⟩⟩
      have hI2 : InvS m2 := InvS_sm (Sm_of hF (by decide)) hI
      have hb2 : m2 1359 0 a = -2 := by rw [FrM_n hF (by decide) (by decide)]; exact hb
      refine Y_met rfl 0 rfl (sg_X12_judge_0 _ _ _ _ (cm_isShelf fun y2 hy2 => ⟨y2, rfl, fun q => by omega, fun _ => cm_areSizes hz fun y3 hy3 => ⟨y3, rfl, fun _ => cm_rowF ha fun x2 hx2 => ⟨x2, rfl, fun _ => ?_, fun q => by unfold RfB at hx2; omega⟩, fun q => ?_⟩⟩))
      · refine cm_goSheet hk hI2 ha hb2 fun m3 hF3 hR3 h49 => ⟨rfl, trivial, ?_, FrM_trans (FrM_mono hF (by decide)) (FrM_mono hF3 (by decide))⟩
        rw [h49]
        exact congrArg (fun e : ShS => some (vi e.1)) (shZ_f (a := a) (z := z) hF)
      · rcases hy3 with w | w
        · exact absurd q (by omega)
        · exact absurd hk w.2
    · refine hQ _ _ (Y_met rfl 0 rfl (sg_X12_judge_0 _ _ _ _ (cm_isShelf fun y2 hy2 => ⟨y2, rfl, fun q => ⟨trivial, ?_, FrM_refl _ _⟩, fun q => cm_areSizes hz fun y3 hy3 => ⟨y3, rfl, fun _ => cm_rowF (by omega) fun x2 hx2 => ⟨x2, rfl, fun _ => ?_, fun q => cm_rowF (by omega) fun x3 hx3 => ⟨x3, rfl, trivial, ?_, FrM_refl _ _⟩⟩, fun q => ?_⟩⟩)))
      · unfold RfB at hx; rw [show x = -1 by omega]
      · unfold RfB at hx hx2; omega
      · unfold RfB at hx hx3; rw [show x3 = x by omega]
      · rcases hy3 with w | w
        · exact absurd q (by omega)
        · exact absurd hk w.2
  · have hk : ¬ okZ z := by
      rcases hy with q | q
      · exact absurd q.1 c
      · exact q.2
    refine hQ _ _ (Y_met rfl 0 rfl (sg_X12_judge_0 _ _ _ _ (cm_isShelf fun y2 hy2 => ⟨y2, rfl, fun q => ⟨trivial, rfl, FrM_refl _ _⟩, fun q => cm_areSizes hz fun y3 hy3 => ⟨y3, rfl, fun q3 => ?_, fun q3 => ⟨trivial, rfl, FrM_refl _ _⟩⟩⟩)))
    rcases hy3 with w | w
    · exact absurd w.2 hk
    · exact absurd w.1 q3
def bnV (z : ShS) (w k : Int) : Int := if k = 0 then (tmOf z w).1 else if k = 1 then (if (tmOf z w).2.length = 0 then -2 else (tmOf z w).2.getD 0 0) else scOf z w
set_option maxHeartbeats 1000000 in
theorem pr_bench {a z w k : Int} (hI : InvS m)
    (hQ : ∀ x m1, MtX yX12_bench cX12_bench 5 (some .int) (d + 5) [vr 12 0, vi a, vi z, vi w, vi k] m1 (fun r m2 => r = some (vi x) ∧ FrM wJg m m2) → Q (some (vi x)) m1) : MtX yX11_bench cX11_bench 6 (some .int) (d + 5) [vr 11 0, vi a, vi z, vi w, vi k] m Q := by
  refine MtX_wf fun _ hav => ?_
  have hz : ri z := hav (vi z) (by simp)
  by_cases g : okZ z ∧ (0 ≤ w ∧ w ≤ 1) ∧ (0 ≤ k ∧ k ≤ 2)
  · obtain ⟨hk, hw, hk3⟩ := g
    have ns : ∀ {y : Int}, (y = 0 ∧ okZ z ∨ y = 1 ∧ ¬ okZ z) → y = 0 := fun hy => by
      rcases hy with q | q
      · exact q.1
      · exact absurd hk q.2
    have as : ∀ {y : Int}, (y = 1 ∧ okZ z ∨ y = 0 ∧ ¬ okZ z) → y = 1 := fun hy => by
      rcases hy with q | q
      · exact q.1
      · exact absurd hk q.2
    refine Y_met rfl 1 rfl (sg_X11_bench_0 _ _ _ _ _ _ (cc_notSizes hz fun y hy => ⟨y, rfl, fun c => absurd (ns hy) c, fun _ => ⟨fun q => by omega, fun _ => ⟨fun q => by omega, fun _ => ⟨fun q => by omega, fun _ => ⟨fun _ => ?_, fun q => by omega⟩⟩⟩⟩⟩))
    refine cc_refB hI fun x hx => ⟨x, rfl, fun c2 => ?_, fun c2 => ⟨trivial, ?_⟩⟩
    · have ha : 0 ≤ a ∧ a ≤ 5 := by unfold RfB at hx; omega
      have hb : m 1359 0 a = -2 := by unfold RfB at hx; omega
      refine ⟨by omega, cc_read hk hI ha hb fun m2 hF hR => ⟨_, rfl, ?_⟩⟩
      have hI2 : InvS m2 := InvS_sm (Sm_of hF (by decide)) hI
      have hb2 : m2 1359 0 a = -2 := by rw [FrM_n hF (by decide) (by decide)]; exact hb
      have hA := ShR_at hR (w := w) (by omega)
      have key : ∀ x, x = bnV (shZ m a z) w k → Q (some (vi x)) m2 := by
        intro x hx
        refine hQ _ _ (Y_met rfl 0 rfl (sg_X12_bench_0 _ _ _ _ _ _ (cm_isShelf fun y2 hy2 => ⟨y2, rfl, fun q => by omega, fun _ => cm_areSizes hz fun y3 hy3 => ⟨y3, rfl, fun q => absurd q (by rw [as hy3]; decide), fun _ => cm_in fun y4 hy4 => ⟨y4, rfl, fun q => by omega, fun _ => cm_in fun y5 hy5 => ⟨y5, rfl, fun _ => cm_rowF ha fun x2 hx2 => ⟨x2, rfl, fun _ => ?_, fun q => by unfold RfB at hx2; omega⟩, fun q => by omega⟩⟩⟩⟩)))
        refine cm_goSheet hk hI2 ha hb2 fun m3 hF3 hR3 h49 => ⟨rfl, ?_⟩
        have hFF : FrM wJg m m3 := FrM_trans (FrM_mono hF (by decide)) (FrM_mono hF3 (by decide))
        have hR4 : ShR 1345 1348 1346 1347 m3 (shZ m2 a z) := hR3
        rw [shZ_f hF] at hR4
        have hB := ShR_at hR4 (w := w) (by omega)
        unfold bnV at hx
        refine ⟨fun c0 => ⟨fun c1 => ⟨by omega, fun c3 => ⟨?_, trivial, ?_, hFF⟩, fun c3 => ⟨trivial, ?_, hFF⟩⟩, fun c1 => ⟨by omega, trivial, ?_, hFF⟩⟩, fun c0 => ⟨by omega, trivial, ?_, hFF⟩⟩
        · rw [w32i (by omega) (by omega)]; omega
        · rw [if_neg c0, if_pos (by omega)] at hx
          rw [hB.2.1] at c3
          rw [if_neg (by omega)] at hx
          rw [w32i (by omega) (by omega), hB.2.2.1 (by omega), hx]
        · rw [if_neg c0, if_pos (by omega)] at hx
          rw [hB.2.1] at c3
          rw [if_pos (by omega)] at hx
          rw [hx]
        · rw [if_neg c0, if_neg (by omega)] at hx
          rw [hB.2.2.2, hx]
        · rw [if_pos c0] at hx
          rw [hB.1, hx]
      have hA : m2 1000 0 w = (tmOf (shZ m a z) w).1 ∧ m2 1002 0 w = ((tmOf (shZ m a z) w).2.length : Int) ∧ (0 < (tmOf (shZ m a z) w).2.length → m2 1003 0 (7 * w) = (tmOf (shZ m a z) w).2.getD 0 0) ∧ m2 1001 0 w = scOf (shZ m a z) w := hA
      unfold bnV at key
      refine ⟨fun c0 => ⟨by omega, trivial, key _ ?_⟩, fun c0 => ?_, fun c0 c1 => ⟨by omega, trivial, key _ ?_⟩⟩
      · rw [if_pos c0]; exact hA.1
      · rw [if_neg (by omega), if_pos c0] at key
        refine Y_met rfl 0 rfl (sg_X9_outLongest_0 _ _ _ ⟨by omega, fun c3 => ⟨?_, trivial, _, rfl, trivial, key _ ?_⟩, fun c3 => ⟨trivial, _, rfl, trivial, key _ ?_⟩⟩)
        · rw [w32i (by omega) (by omega)]; omega
        · rw [hA.2.1] at c3
          rw [if_neg (by omega), w32i (by omega) (by omega), show w * 7 = 7 * w by omega]
          exact hA.2.2.1 (by omega)
        · rw [hA.2.1] at c3
          rw [if_pos (by omega)]
      · rw [if_neg c0, if_neg c1]; exact hA.2.2.2
    · refine hQ _ _ (Y_met rfl 0 rfl (sg_X12_bench_0 _ _ _ _ _ _ (cm_isShelf fun y2 hy2 => ⟨y2, rfl, fun q => ⟨trivial, ?_, FrM_refl _ _⟩, fun q => cm_areSizes hz fun y3 hy3 => ⟨y3, rfl, fun q => absurd q (by rw [as hy3]; decide), fun _ => cm_in fun y4 hy4 => ⟨y4, rfl, fun q => by omega, fun _ => cm_in fun y5 hy5 => ⟨y5, rfl, fun _ => cm_rowF (by omega) fun x2 hx2 => ⟨x2, rfl, fun _ => ?_, fun q => cm_rowF (by omega) fun x3 hx3 => ⟨x3, rfl, trivial, ?_, FrM_refl _ _⟩⟩, fun q => by omega⟩⟩⟩⟩)))
      · unfold RfB at hx; rw [show x = -1 by omega]
      · unfold RfB at hx hx2; omega
      · unfold RfB at hx hx3; rw [show x3 = x by omega]
  · have key : Q (some (vi (-1))) m := by
      refine hQ _ _ (Y_met rfl 0 rfl (sg_X12_bench_0 _ _ _ _ _ _ (cm_isShelf fun y2 hy2 => ⟨y2, rfl, fun q => ⟨trivial, rfl, FrM_refl _ _⟩, fun q => cm_areSizes hz fun y3 hy3 => ⟨y3, rfl, fun q => ⟨trivial, rfl, FrM_refl _ _⟩, fun q3 => cm_in fun y4 hy4 => ⟨y4, rfl, fun q => ⟨trivial, rfl, FrM_refl _ _⟩, fun q4 => cm_in fun y5 hy5 => ⟨y5, rfl, fun q5 => ?_, fun q => ⟨trivial, rfl, FrM_refl _ _⟩⟩⟩⟩⟩)))
      refine absurd ⟨?_, by omega, by omega⟩ g
      rcases hy3 with q | q
      · exact q.2
      · exact absurd q.1 q3
    refine Y_met rfl 1 rfl (sg_X11_bench_0 _ _ _ _ _ _ (cc_notSizes hz fun y hy => ⟨y, rfl, fun c => ⟨trivial, key⟩, fun c => ⟨fun q => ⟨trivial, key⟩, fun q1 => ⟨fun q => ⟨trivial, key⟩, fun q2 => ⟨fun q => ⟨trivial, key⟩, fun q3 => ⟨fun q4 => ?_, fun q => ⟨trivial, key⟩⟩⟩⟩⟩⟩))
    refine absurd ⟨?_, by omega, by omega⟩ g
    rcases hy with q | q
    · exact q.2
    · exact absurd c (by omega)
end
