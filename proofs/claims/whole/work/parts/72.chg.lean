/-! changes, both sides -/
section
variable {d : Nat} {m : AMem} {Q : Option AV → AMem → Prop}
def wGc : List Nat := [1, 200, 201, 202, 203]
def wGm : List Nat := [5007, 5008, 1309, 1310, 1311, 1312]
theorem cc_note {c n w b a : Int} {g : StR} (hg : gOk c g) (hR : gcR m g) (hQ : ∀ m2, FrM wGc m m2 → gcR m2 (gNote g n w b a) → Q none m2) : MtX yX1_note cX1_note 5 none (d + 2) [vr 1 0, vi n, vi w, vi b, vi a] m Q := by
  have key : ∀ (m1 : AMem) (g1 : StR), FrM wGc m m1 → (0 ≤ g1 400 ∧ g1 400 < 40) → m1 1 0 4 = g1 400 → (∀ i : Int, 0 ≤ i → i < g1 400 → m1 200 0 i = g1 i ∧ m1 201 0 i = g1 (100 + i) ∧ m1 202 0 i = g1 (200 + i) ∧ m1 203 0 i = g1 (300 + i)) → gNote g n w b a = gN1 g1 n w b a → Y cX1_note 5 RX1 (d + 2) none 13 [some (vr 1 0), some (vi n), some (vi w), some (vi b), some (vi a)] [] m1 (fun r mem2 => rk none r ∧ Q r mem2) := by
    intro m1 g1 hF h4 e4 hA hG
    obtain ⟨f1, f2, f3⟩ := gN1_all (n := n) (w := w) (b := b) (a := a) h4
    refine sg_X1_note_13 _ _ _ _ _ _ ?_
    rw [e4, w32i (z := g1 400 + 1) (by omega) (by omega)]
    refine ⟨h4, h4, h4, h4, trivial, hQ _ ?_ ?_⟩
    · exact FrM_uk (FrM_uk (FrM_uk (FrM_uk (FrM_uk (FrM_uk hF (by decide) (by decide)) (by decide) (by decide)) (by decide) (by decide)) (by decide) (by decide)) (by decide) (by decide)) (by decide) (by decide)
    · rw [hG]
      unfold gcR
      rw [f1, f2]
      refine ⟨by simp [upM], by simp [upM], fun i g0 g1' => ?_⟩
      obtain ⟨t1, t2, t3, t4⟩ := f3 i g0 (by omega)
      rw [t1, t2, t3, t4]
      by_cases e : i = g1 400
      · simp [upM, e]
      · simp [upM, e]
        exact hA i g0 (by omega)
  obtain ⟨a1, a2, a3⟩ := hR
  obtain ⟨c1, c2⟩ := hg
  refine Y_met rfl 0 rfl (sg_X1_note_0 _ _ _ _ _ _ ?_)
  rw [a1]
  refine ⟨fun q => key m g (FrM_refl _ _) ⟨c1.1, q⟩ a1 (fun i g0 g1 => a3 i g0 (by omega)) (by unfold gNote; rw [if_pos q]), fun q => ?_⟩
  obtain ⟨s1, s2, s3⟩ := gSh_all (g := g)
  refine Y_met rfl 0 rfl (sg_X1_forgetFirst_0 _ _ ⟨by decide, by decide, by decide, by decide, trivial, rfl, ?_⟩)
  refine key _ (gSh g) ?_ (by rw [s1]; decide) (by rw [s1]; simp [upM, cpM]) (fun i g0 g1 => ?_) (by unfold gNote; rw [if_neg q])
  · exact FrM_cp (FrM_cp (FrM_cp (FrM_cp (FrM_uk (FrM_refl _ _) (by decide) (by decide)) (by decide) (by decide)) (by decide) (by decide)) (by decide) (by decide)) (by decide) (by decide)
  · rw [s1] at g1
    obtain ⟨t1, t2, t3, t4⟩ := s3 i g0 (by omega)
    rw [t1, t2, t3, t4, if_pos g1, if_pos g1, if_pos g1, if_pos g1]
    have := a3 (i + 1) (by omega) (by omega)
    have e : (0 : Int) ≤ i ∧ i < 0 + 39 := by omega
    have e2 : (1 : Int) + (i - 0) = i + 1 := by omega
    simp only [cpM, Nat.reduceEqDiff, if_false, if_true, ↓reduceIte, upM]
    rw [if_pos e, if_pos e, if_pos e, if_pos e, e2]
    exact this
set_option maxHeartbeats 1000000 in
theorem cm_changes {n w v : Int} {h g : StR} (hk : hOk h) (hR : hmR m h) (hw : kOw h n w) (hv : okV w v) (hg : gOk (h 10) g) (hG : gmR m g)
    (hQ0 : hGet h n w = v → Q (some (vi v)) m) (hQ : hGet h n w ≠ v → ∀ m2, FrM (wGm ++ wHm) m m2 → hmR m2 (hSet h n w v) → gmR m2 (gNote g n w (hGet h n w) v) → Q (some (vi (hGet h n w))) m2) : MtX yX12_changes cX12_changes 6 (some .int) (d + 2) [vr 12 0, vi w, vi n, vi v] m Q := by
  obtain ⟨a1, a2, a3⟩ := hG
  obtain ⟨c1, c2⟩ := hg
  refine Y_met rfl 2 rfl (sg_X12_changes_0 _ _ _ _ _ (cm_value hk hR hw ⟨_, rfl, fun c => ?_, fun c => ⟨trivial, by rw [c]; exact hQ0 c⟩⟩))
  have hQ := hQ c
  have last : ∀ (m1 : AMem) (g1 : StR) (y : Int), FrM (wGm ++ wHm) m m1 → (0 ≤ g1 400 ∧ g1 400 < 40) → m1 12 0 7 = g1 400 → m1 12 0 8 = 0 → (∀ i : Int, 0 ≤ i → i < g1 400 → m1 1310 0 i = g1 i ∧ m1 1309 0 i = g1 (100 + i) ∧ m1 1311 0 i = g1 (200 + i) ∧ m1 1312 0 i = g1 (300 + i)) → hmR m1 h → gNote g n w (hGet h n w) v = gN1 g1 n w (hGet h n w) v → Y cX12_changes 6 RX12 (d + 2) none 121 [some (vr 12 0), some (vi w), some (vi n), some (vi v), some (vi (hGet h n w)), none] [] m1 (fun r mem2 => rk (some .int) r ∧ Q r mem2) := by
    intro m1 g1 y hF h4 e4 e8 hA hR1 hG1
    obtain ⟨f1, f2, f3⟩ := gN1_all (n := n) (w := w) (b := hGet h n w) (a := v) h4
    refine sg_X12_changes_121 _ _ _ _ _ _ ?_
    rw [e4, w32i (z := g1 400 + 1) (by omega) (by omega)]
    refine ⟨h4, h4, h4, h4, ?_⟩
    have hF2 : FrM (wGm ++ wHm) m (upM (upM (upM (upM (upM m1 1309 0 (g1 400) w) 1310 0 (g1 400) n) 1311 0 (g1 400) (hGet h n w)) 1312 0 (g1 400) v) 12 0 7 (g1 400 + 1)) := FrM_up (FrM_uk (FrM_uk (FrM_uk (FrM_uk hF (by decide) (by decide)) (by decide) (by decide)) (by decide) (by decide)) (by decide) (by decide)) (by decide)
    have hR2 : hmR (upM (upM (upM (upM (upM m1 1309 0 (g1 400) w) 1310 0 (g1 400) n) 1311 0 (g1 400) (hGet h n w)) 1312 0 (g1 400) v) 12 0 7 (g1 400 + 1)) h := hmR_fr (W := wGm) (FrM_up (FrM_uk (FrM_uk (FrM_uk (FrM_uk (FrM_refl _ _) (by decide) (by decide)) (by decide) (by decide)) (by decide) (by decide)) (by decide) (by decide)) (by decide)) (by decide) hR1
    refine cm_lays hk hR2 hw hv fun m3 hF3 hR3 => ⟨rfl, trivial, hQ m3 (FrM_trans hF2 (FrM_mono hF3 (by decide))) hR3 ?_⟩
    refine gmR_fr hF3 (by decide) ?_
    rw [hG1]
    unfold gmR
    rw [f1, f2]
    refine ⟨by simp [upM], by simp [upM, e8], fun i g0 g1' => ?_⟩
    obtain ⟨t1, t2, t3, t4⟩ := f3 i g0 (by omega)
    rw [t1, t2, t3, t4]
    by_cases e : i = g1 400
    · simp [upM, e]
    · simp [upM, e]
      exact hA i g0 (by omega)
  rw [a1]
  refine ⟨fun q => ?_, fun q => ?_⟩
  · refine last _ g 0 (FrM_up (FrM_refl _ _) (by decide)) (by omega) (by simp [upM, a1]) up_s (fun i g0 g1 => a3 i g0 (by omega)) (hmR_fr (W := wGm) (FrM_up (FrM_refl _ _) (by decide)) (by decide) hR) ?_
    unfold gNote
    rw [if_pos (by omega)]
  · -- the first is forgotten
    obtain ⟨s1, s2, s3⟩ := gSh_all (g := g)
    have key : ∀ (r k : Nat) (mm : AMem), k + r = 40 → 1 ≤ k → FrM [5008, 1309, 1310, 1311, 1312] m mm → mm 12 0 8 = 0 →
        (∀ i : Int, 0 ≤ i → i < 40 → if i < (k : Int) - 1 then (mm 1310 0 i = m 1310 0 (i + 1) ∧ mm 1309 0 i = m 1309 0 (i + 1) ∧ mm 1311 0 i = m 1311 0 (i + 1) ∧ mm 1312 0 i = m 1312 0 (i + 1)) else (mm 1310 0 i = m 1310 0 i ∧ mm 1309 0 i = m 1309 0 i ∧ mm 1311 0 i = m 1311 0 i ∧ mm 1312 0 i = m 1312 0 i)) →
        Y cX12_changes 6 RX12 (d + 2) none 34 [some (vr 12 0), some (vi w), some (vi n), some (vi v), some (vi (hGet h n w)), some (vi k)] [] mm (fun r mem2 => rk (some .int) r ∧ Q r mem2) := by
      intro r
      induction r with
      | zero =>
        intro k mm hk' h1 hF h8 hA
        have e : k = 40 := by omega
        subst e
        have e7 : mm 12 0 7 = g 400 := by rw [hF 12 0 7 (by decide)]; exact a1
        refine sg_X12_changes_34 _ _ _ _ _ _ _ ⟨fun _ => ?_, fun c => absurd (by decide) c⟩
        rw [e7, w32i (z := g 400 - 1) (by omega) (by omega)]
        refine Y_fg (by exact ⟨rfl, rfl, rfl, rfl, rfl, trivial⟩) (last _ (gSh g) 0 (FrM_up (FrM_mono hF (by decide)) (by decide)) (by rw [s1]; decide) (by rw [s1, up_s]; omega) (by rw [up_i (by decide)]; exact h8) (fun i g0 g1 => ?_) (hmR_fr (W := wGm) (FrM_up (FrM_mono hF (by decide)) (by decide)) (by decide) hR) ?_)
        · rw [s1] at g1
          have := hA i g0 (by omega)
          rw [if_pos (by omega)] at this
          obtain ⟨t1, t2, t3, t4⟩ := s3 i g0 (by omega)
          rw [t1, t2, t3, t4, if_pos g1, if_pos g1, if_pos g1, if_pos g1]
          have p := a3 (i + 1) (by omega) (by omega)
          rw [up_k (by decide), up_k (by decide), up_k (by decide), up_k (by decide), this.1, this.2.1, this.2.2.1, this.2.2.2]
          exact p
        · unfold gNote
          rw [if_neg (by omega)]
      | succ r ih =>
        intro k mm hk' h1 hF h8 hA
        refine sg_X12_changes_34 _ _ _ _ _ _ _ ⟨fun c => by omega, fun _ => ?_⟩
        rw [w32n (by omega), w32i (z := (k : Int) - 1) (by omega) (by omega)]
        refine ⟨by omega, by omega, by omega, by omega, by omega, by omega, by omega, by omega, ?_⟩
        refine ih (k + 1) _ (by omega) (by omega) (FrM_uk (FrM_uk (FrM_uk (FrM_uk hF (by decide) (by decide)) (by decide) (by decide)) (by decide) (by decide)) (by decide) (by decide)) (by simp [upM, h8]) fun i g0 g1 => ?_
        have hi := hA i g0 g1
        have hkk := hA k (by omega) (by omega)
        rw [if_neg (by omega)] at hkk
        have ek : ((k + 1 : Nat) : Int) - 1 = k := by omega
        rw [ek]
        by_cases e : i = (k : Int) - 1
        · rw [if_pos (by omega)]
          have e2 : i + 1 = k := by omega
          rw [e2]
          simp [upM, e, hkk]
        · simp [upM, e]
          by_cases e3 : i < (k : Int) - 1
          · rw [if_pos e3] at hi
            rw [if_pos (by omega)]
            exact hi
          · rw [if_neg e3] at hi
            rw [if_neg (by omega)]
            exact hi
    have := key 39 1 (upM m 12 0 8 0) (by decide) (by decide) (FrM_up (FrM_refl _ _) (by decide)) up_s (fun i g0 g1 => by rw [if_neg (by omega)]; exact ⟨rfl, rfl, rfl, rfl⟩)
    exact this
theorem cm_mayHave {w v : Int} (hw : 0 ≤ w ∧ w ≤ 13) (hQ : ∀ x : Int, (x = 1 ∧ okV w v ∨ x = 0 ∧ ¬ okV w v) → Q (some (vi x)) m) : MtX yX12_mayHave cX12_mayHave 2 (some .boolean) (d + 3) [vi w, vi v] m Q := by
  have o4 : okV 4 v ↔ 1 ≤ v ∧ v ≤ 60 := by simp [okV, romL]
  have o5 : okV 5 v ↔ 0 ≤ v ∧ v ≤ 3 := by simp [okV, romL]
  have o6 : okV 6 v ↔ 0 ≤ v ∧ v ≤ 40 := by simp [okV, romL]
  have o7 : okV 7 v ↔ 0 ≤ v ∧ v ≤ 8 := by simp [okV, romL]
  have o8 : okV 8 v ↔ 1 ≤ v ∧ v ≤ 8 := by simp [okV, romL]
  have o9 : 9 ≤ w → w ≤ 13 → (okV w v ↔ 0 ≤ v ∧ v ≤ 12) := by
    intro q1 q2
    have e : w = 9 ∨ w = 10 ∨ w = 11 ∨ w = 12 ∨ w = 13 := by omega
    rcases e with rfl | rfl | rfl | rfl | rfl <;> simp [okV, romL]
  have o0 := okV_0 (v := v)
  have o1 := okV_1 (v := v)
  have o2 := okV_2 (v := v)
  have o3 := okV_3 (v := v)
  have fin : ∀ (x a b : Int), (x = 1 ∧ a ≤ v ∧ v ≤ b ∨ x = 0 ∧ ¬ (a ≤ v ∧ v ≤ b)) → (okV w v ↔ a ≤ v ∧ v ≤ b) → rk (some .boolean) (some (vi x)) ∧ Q (some (vi x)) m := fun x a b hx ho => ⟨by simp only [rk]; omega, hQ x (by rw [ho]; exact hx)⟩
  refine Y_met rfl 0 rfl (sg_X12_mayHave_0 _ _ _ _ ⟨fun c => ?_, fun c => ?_, fun c => ?_, fun c => ?_, fun c => ?_, fun c => ?_, fun c => ?_, fun c => ?_, fun c => ?_, fun c => ?_⟩)
  · exact cm_isColumn fun x hx => ⟨x, rfl, fin x 0 8 hx (by rw [c]; exact o0)⟩
  · exact cm_isRow fun x hx => ⟨x, rfl, fin x 1 8 hx (by rw [c]; exact o1)⟩
  · exact cm_in fun x hx => ⟨x, rfl, fin x 0 9 hx (by rw [c]; exact o2)⟩
  · exact cm_in fun x hx => ⟨x, rfl, fin x 0 1 hx (by rw [c]; exact o3)⟩
  · exact cm_in fun x hx => ⟨x, rfl, fin x 1 60 hx (by rw [c]; exact o4)⟩
  · exact cm_in fun x hx => ⟨x, rfl, fin x 0 3 hx (by rw [c]; exact o5)⟩
  · exact cm_in fun x hx => ⟨x, rfl, fin x 0 40 hx (by rw [c]; exact o6)⟩
  · exact cm_isColumn fun x hx => ⟨x, rfl, fin x 0 8 hx (by rw [c]; exact o7)⟩
  · exact cm_isRow fun x hx => ⟨x, rfl, fin x 1 8 hx (by rw [c]; exact o8)⟩
  · exact cm_in fun x hx => ⟨x, rfl, fin x 0 12 hx (o9 (by omega) (by omega))⟩
def wMd : List Nat := [2, 300, 301, 302, 303, 1, 200, 201, 202, 203, 5007, 5008, 1309, 1310, 1311, 1312, 1302, 1303, 1304, 1305, 1306]
theorem hm_n {W : List Nat} {m2 : AMem} (hF : FrM W m m2) (h : 5001 ∉ W) : m2 12 0 1 = m 12 0 1 := hF 12 0 1 h
theorem pr_mend {n w v : Int} (hI : InvH m) (hC : InvC m) (hst : 0 ≤ m 2 0 6 ∧ m 2 0 6 ≤ 100000)
    (hQ : ∀ x m1, MtX yX12_mend cX12_mend 4 (some .int) (d + 4) [vr 12 0, vi n, vi w, vi v] m1 (fun r m2 => r = some (vi x) ∧ InvH m2 ∧ InvC m2 ∧ FrM (5001 :: wMd) m m2 ∧ m2 12 0 1 = m 12 0 1 ∧ StP m m2) → Q (some (vi x)) m1) : MtX yX11_mend cX11_mend 5 (some .int) (d + 4) [vr 11 0, vi n, vi w, vi v] m Q := by
  obtain ⟨q1, q2, q3⟩ := inv_h hI
  obtain ⟨r1, r2, r3⟩ := inv_g hC
  have hn10 : hOf m 10 = m 12 0 1 := by rw [hOf_10]; exact hI.1.2.2
  rw [← hn10] at r3
  have bad : ¬ (kOw (hOf m) n w ∧ okV w v) → Q (some (vi (-1))) m := by
    intro hb
    refine hQ _ _ (Y_met rfl 0 rfl (sg_X12_mend_0 _ _ _ _ _ (cm_isOne q3 q2 fun y hy => ⟨y, rfl, fun c => ⟨trivial, rfl, hI, hC, FrM_refl _ _, rfl, Or.inl rfl⟩, fun c => ?_⟩)))
    have hkw : kOw (hOf m) n w := by
      rcases hy with hy | hy
      · exact hy.2
      · omega
    have hw : 0 ≤ w ∧ w ≤ 13 := by unfold kOw at hkw; omega
    refine cm_mayHave hw fun z hz => ⟨z, rfl, fun c => ⟨trivial, rfl, hI, hC, FrM_refl _ _, rfl, Or.inl rfl⟩, fun c => ?_⟩
    rcases hz with hz | hz
    · exact absurd ⟨hkw, hz.2⟩ hb
    · omega
  refine Y_met rfl 1 rfl (sg_X11_mend_0 _ _ _ _ _ (cc_knows q1 fun x hx => ⟨x, rfl, fun c => ⟨trivial, bad fun z => ?_⟩, fun c => ?_⟩))
  · rcases hx with hx | hx
    · omega
    · exact hx.2 z.1
  have hkw : kOw (hOf m) n w := by
    rcases hx with hx | hx
    · exact hx.2
    · omega
  have hw : 0 ≤ w ∧ w ≤ 13 := by unfold kOw at hkw; omega
  have hl1 : ((romL 2001).length : Int) = 14 := by decide +kernel
  have hl0 : ((romL 2000).length : Int) = 14 := by decide +kernel
  refine ⟨by rw [hl1]; omega, fun c2 => ⟨trivial, bad fun z => ?_⟩, fun c2 => ⟨by rw [hl0]; omega, fun c3 => ?_, fun c3 => ⟨trivial, bad fun z => ?_⟩⟩⟩
  · have := z.2.1; omega
  · have hv : okV w v := ⟨by omega, c3⟩
    have hgk := hGet_ok q3 hkw
    refine cc_tell q3 q1 hkw ⟨_, rfl, fun c4 => ⟨trivial, hQ _ _ ?_⟩, fun c4 => ?_⟩
    · refine Y_met rfl 0 rfl (sg_X12_mend_0 _ _ _ _ _ (cm_isOne q3 q2 fun y hy => ⟨y, rfl, fun c => ?_, fun c => cm_mayHave hw fun z hz => ⟨z, rfl, fun c => ?_, fun c => ?_⟩⟩))
      · rcases hy with hy | hy
        · omega
        · exact absurd hkw hy.2
      · rcases hz with hz | hz
        · omega
        · exact absurd hv hz.2
      · exact cm_changes q3 q2 hkw hv r3 r2 (fun _ => ⟨_, rfl, trivial, by rw [c4], hI, hC, FrM_refl _ _, rfl, Or.inl rfl⟩) (fun c5 => absurd c4 c5)
    · refine cc_change q3 q1 hkw hv (by omega) fun m2 hF2 hR2 h6 h7 => ⟨rfl, ?_⟩
      refine cc_note (b := hGet (hOf m) n w) (a := v) r3 (gcR_fr hF2 (by decide) r1) fun m3 hF3 hR3 => ⟨rfl, trivial, hQ _ _ ?_⟩
      have hF23 : FrM wMd m m3 := FrM_trans (FrM_mono hF2 (by decide)) (FrM_mono hF3 (by decide))
      have hm3 := hmR_fr (FrM_trans (FrM_mono hF2 (by decide)) (FrM_mono hF3 (W2 := wHf ++ wGc) (by decide)) : FrM (wHf ++ wGc) m m3) (by decide) q2
      have gm3 := gmR_fr (FrM_trans (FrM_mono hF2 (by decide)) (FrM_mono hF3 (W2 := wHf ++ wGc) (by decide)) : FrM (wHf ++ wGc) m m3) (by decide) r2
      refine Y_met rfl 0 rfl (sg_X12_mend_0 _ _ _ _ _ (cm_isOne q3 hm3 fun y hy => ⟨y, rfl, fun c => ?_, fun c => cm_mayHave hw fun z hz => ⟨z, rfl, fun c => ?_, fun c => ?_⟩⟩))
      · rcases hy with hy | hy
        · omega
        · exact absurd hkw hy.2
      · rcases hz with hz | hz
        · omega
        · exact absurd hv hz.2
      · refine cm_changes q3 hm3 hkw hv r3 gm3 (fun c5 => absurd c5 c4) fun c5 m4 hF4 hR4 hG4 => ⟨_, rfl, trivial, rfl, ?_, ?_, ?_, ?_, Or.inr ⟨?_, ?_, ?_⟩⟩
        · exact h_inv (hcR_fr hF4 (by decide) (hcR_fr hF3 (by decide) hR2)) hR4 (hSet_all q3 hkw hv).1
        · refine g_inv (gcR_fr hF4 (by decide) hR3) hG4 ?_
          rw [hR4.1, hSet_10 q3 hkw]
          refine gNote_ok r3 ⟨?_, hgk, hv⟩
          unfold kOw at hkw
          omega
        · exact FrM_trans (FrM_mono hF23 (by decide)) (FrM_mono hF4 (by decide))
        · rw [hR4.1, hSet_10 q3 hkw, hn10]
        · rw [FrM_n hF4 (by decide) (by decide), FrM_n hF3 (by decide) (by decide), h6]; omega
        · rw [FrM_n hF4 (by decide) (by decide), FrM_n hF3 (by decide) (by decide), h6]; omega
        · rw [FrM_n hF4 (by decide) (by decide), FrM_n hF3 (by decide) (by decide), h7]
  · exact c3 z.2.2
theorem gx_400 {c : Int} {g : StR} {v : Int} (hg : gOk c g) (hv : 0 ≤ v ∧ v ≤ g 401) : gOk c (upS g 400 v) := by
  obtain ⟨c1, c2⟩ := hg
  unfold gOk
  rw [upS_s, upS_n (by decide)]
  refine ⟨by omega, fun i g0 g1 => ?_⟩
  rw [upS_n (by omega), upS_n (by omega), upS_n (by omega), upS_n (by omega)]
  exact c2 i g0 g1
theorem gcR_400 {g : StR} {v : Int} (h40 : g 401 ≤ 40) (hR : gcR m g) : gcR (upM m 1 0 4 v) (upS g 400 v) := by
  obtain ⟨a1, a2, a3⟩ := hR
  unfold gcR
  rw [upS_s, upS_n (by decide)]
  refine ⟨up_s, by rw [up_i (by decide)]; exact a2, fun i g0 g1 => ?_⟩
  rw [upS_n (by omega), upS_n (by omega), upS_n (by omega), upS_n (by omega)]
  exact a3 i g0 g1
theorem gmR_400 {g : StR} {v w : Int} (h40 : g 401 ≤ 40) (hv : w = g 401 - v) (hR : gmR m g) : gmR (upM (upM m 12 0 7 v) 12 0 8 w) (upS g 400 v) := by
  obtain ⟨a1, a2, a3⟩ := hR
  unfold gmR
  rw [upS_s, upS_n (k := 401) (by decide)]
  refine ⟨by rw [up_i (by decide)]; exact up_s, by rw [up_s]; exact hv, fun i g0 g1 => ?_⟩
  rw [upS_n (by omega), upS_n (by omega), upS_n (by omega), upS_n (by omega)]
  exact a3 i g0 g1
theorem kOw_of {c n w b a : Int} {h : StR} (hc : okCh c w n b a) (h10 : h 10 = c) : kOw h n w ∧ okV w b ∧ okV w a := by
  unfold okCh at hc
  unfold kOw
  rw [h10]
  exact ⟨by omega, hc.2.1, hc.2.2⟩
theorem pr_undo (hI : InvH m) (hC : InvC m) (hst : 0 ≤ m 2 0 6 ∧ m 2 0 6 ≤ 100000)
    (hQ : ∀ x m1, MtX yX12_undo cX12_undo 1 (some .int) (d + 3) [vr 12 0] m1 (fun r m2 => r = some (vi x) ∧ InvH m2 ∧ InvC m2 ∧ FrM (5001 :: wMd) m m2 ∧ m2 12 0 1 = m 12 0 1 ∧ StP m m2) → Q (some (vi x)) m1) : MtX yX11_undo cX11_undo 1 (some .int) (d + 3) [vr 11 0] m Q := by
  obtain ⟨q1, q2, q3⟩ := inv_h hI
  obtain ⟨r1, r2, r3⟩ := inv_g hC
  have hn10 : hOf m 10 = m 12 0 1 := by rw [hOf_10]; exact hI.1.2.2
  have r30 := r3.1
  have e4 := r1.1
  have e7 := r2.1
  have e8 := r2.2.1
  refine Y_met rfl 0 rfl (sg_X11_undo_0 _ _ ?_)
  refine Y_met rfl 0 rfl (sg_X1_takeBack_0 _ _ ?_)
  rw [e4]
  refine ⟨fun c => ?_, fun c => ⟨Or.inl rfl, 0, rfl, fun _ => ⟨trivial, hQ _ _ ?_⟩, fun z => absurd rfl z⟩⟩
  · rw [w32i (z := gOff m 400 - 1) (by omega) (by omega)]
    have p := r1.2.2 (gOff m 400 - 1) (by omega) (by omega)
    have pm := r2.2.2 (gOff m 400 - 1) (by omega) (by omega)
    have pk := r3.2 (gOff m 400 - 1) (by omega) (by omega)
    rw [p.1, p.2.1, p.2.2.1]
    obtain ⟨k1, k2, k3⟩ := kOw_of pk hn10
    have hF1 : FrM wGc m (upM m 1 0 4 (gOff m 400 - 1)) := FrM_uk (FrM_refl _ _) (by decide) (by decide)
    refine ⟨by omega, by omega, by omega, cc_change q3 (hcR_fr hF1 (by decide) q1) k1 k2 (by simpa [upM] using (show 0 ≤ m 2 0 6 ∧ m 2 0 6 ≤ 200000 by omega)) fun m2 hF2 hR2 h6 h7 => ⟨rfl, Or.inr rfl, 1, rfl, fun z => absurd z (by decide), fun _ => ⟨trivial, ?_⟩⟩⟩
    have e42 : m2 1 0 4 = gOff m 400 - 1 := by rw [FrM_n hF2 (by decide) (by decide)]; exact up_s
    rw [e42]
    have hF12 : FrM (wGc ++ wHf) m m2 := FrM_trans (FrM_mono hF1 (by decide)) (FrM_mono hF2 (by decide))
    have hm2 := hmR_fr hF12 (by decide) q2
    have gm2 := gmR_fr hF12 (by decide) r2
    refine hQ _ _ (Y_met rfl 0 rfl (sg_X12_undo_0 _ _ ?_))
    rw [gm2.1, gm2.2.1, w32i (z := gOff m 400 - 1) (by omega) (by omega), w32i (z := gOff m 401 - gOff m 400 + 1) (by omega) (by omega)]
    have pm2 := gm2.2.2 (gOff m 400 - 1) (by omega) (by omega)
    rw [pm2.1, pm2.2.1, pm2.2.2.1]
    refine ⟨fun _ => ⟨by omega, by omega, by omega, ?_⟩, fun c2 => by omega⟩
    have hF3 : FrM wGm m2 (upM (upM m2 12 0 7 (gOff m 400 - 1)) 12 0 8 (gOff m 401 - gOff m 400 + 1)) := FrM_up (FrM_up (FrM_refl _ _) (by decide)) (by decide)
    refine cm_lays q3 (hmR_fr hF3 (by decide) hm2) k1 k2 fun m4 hF4 hR4 => ⟨rfl, trivial, ?_, ?_, ?_, ?_, ?_, Or.inr ⟨?_, ?_, ?_⟩⟩
    · rw [hF4 12 0 7 (by decide), up_i (by decide), up_s]
    · exact h_inv (hcR_fr hF4 (by decide) (hcR_fr hF3 (by decide) hR2)) hR4 (hSet_all q3 k1 k2).1
    · refine g_inv (g := upS (gOff m) 400 (gOff m 400 - 1)) ?_ (gmR_fr hF4 (by decide) (gmR_400 (by omega) (by omega) gm2)) ?_
      · refine gcR_fr hF4 (by decide) (gcR_fr hF3 (by decide) (gcR_fr hF2 (by decide) (gcR_400 (by omega) r1)))
      · rw [hR4.1, hSet_10 q3 k1, hn10]
        exact gx_400 r3 (by omega)
    · exact FrM_trans (FrM_mono hF12 (by decide)) (FrM_trans (FrM_mono hF3 (by decide)) (FrM_mono hF4 (by decide)))
    · rw [hR4.1, hSet_10 q3 k1, hn10]
    · rw [FrM_n hF4 (by decide) (by decide), FrM_n hF3 (by decide) (by decide), h6]; simp [upM]; omega
    · rw [FrM_n hF4 (by decide) (by decide), FrM_n hF3 (by decide) (by decide), h6]; simp [upM]
    · rw [FrM_n hF4 (by decide) (by decide), FrM_n hF3 (by decide) (by decide), h7]; rfl
  · refine Y_met rfl 0 rfl (sg_X12_undo_0 _ _ ⟨fun c2 => by omega, fun _ => ⟨trivial, rfl, hI, hC, FrM_refl _ _, rfl, Or.inl rfl⟩⟩)
theorem pr_redo (hI : InvH m) (hC : InvC m) (hst : 0 ≤ m 2 0 6 ∧ m 2 0 6 ≤ 100000)
    (hQ : ∀ x m1, MtX yX12_redo cX12_redo 1 (some .int) (d + 3) [vr 12 0] m1 (fun r m2 => r = some (vi x) ∧ InvH m2 ∧ InvC m2 ∧ FrM (5001 :: wMd) m m2 ∧ m2 12 0 1 = m 12 0 1 ∧ StP m m2) → Q (some (vi x)) m1) : MtX yX11_redo cX11_redo 1 (some .int) (d + 3) [vr 11 0] m Q := by
  obtain ⟨q1, q2, q3⟩ := inv_h hI
  obtain ⟨r1, r2, r3⟩ := inv_g hC
  have hn10 : hOf m 10 = m 12 0 1 := by rw [hOf_10]; exact hI.1.2.2
  have r30 := r3.1
  have e4 := r1.1
  have e5 := r1.2.1
  have e7 := r2.1
  have e8 := r2.2.1
  refine Y_met rfl 0 rfl (sg_X11_redo_0 _ _ ?_)
  refine Y_met rfl 0 rfl (sg_X1_doAgain_0 _ _ ?_)
  rw [e4, e5]
  refine ⟨fun c => ?_, fun c => ⟨Or.inl rfl, 0, rfl, fun _ => ⟨trivial, hQ _ _ ?_⟩, fun z => absurd rfl z⟩⟩
  · have p := r1.2.2 (gOff m 400) (by omega) (by omega)
    have pk := r3.2 (gOff m 400) (by omega) (by omega)
    rw [p.1, p.2.1, p.2.2.2]
    obtain ⟨k1, k2, k3⟩ := kOw_of pk hn10
    refine ⟨by omega, by omega, by omega, cc_change q3 q1 k1 k3 (by omega) fun m2 hF2 hR2 h6 h7 => ⟨rfl, Or.inr rfl, 1, rfl, fun z => absurd z (by decide), fun _ => ⟨trivial, ?_⟩⟩⟩
    have e42 : m2 1 0 4 = gOff m 400 := by rw [FrM_n hF2 (by decide) (by decide)]; exact e4
    have e52 : m2 1 0 5 = gOff m 401 := by rw [FrM_n hF2 (by decide) (by decide)]; exact e5
    rw [up_s, up_i (by decide), e42, e52, w32i (z := gOff m 400 + 1) (by omega) (by omega), w32i (z := gOff m 401 - (gOff m 400 + 1)) (by omega) (by omega)]
    have hF1 : FrM wGc m2 (upM m2 1 0 4 (gOff m 400 + 1)) := FrM_uk (FrM_refl _ _) (by decide) (by decide)
    have hF12 : FrM (wGc ++ wHf) m (upM m2 1 0 4 (gOff m 400 + 1)) := FrM_trans (FrM_mono hF2 (by decide)) (FrM_mono hF1 (by decide))
    have hm2 := hmR_fr hF12 (by decide) q2
    have gm2 := gmR_fr hF12 (by decide) r2
    have gc2 := gcR_400 (v := gOff m 400 + 1) (by omega) (gcR_fr hF2 (by decide) r1)
    have hR2 := hcR_fr hF1 (by decide) hR2
    have h62 : (upM m2 1 0 4 (gOff m 400 + 1)) 2 0 6 = m 2 0 6 + 1 := h6
    have h72 : (upM m2 1 0 4 (gOff m 400 + 1)) 2 0 7 = m 2 0 7 := h7
    generalize upM m2 1 0 4 (gOff m 400 + 1) = m3 at *
    refine hQ _ _ (Y_met rfl 0 rfl (sg_X12_redo_0 _ _ ?_))
    have pm2 := gm2.2.2 (gOff m 400) (by omega) (by omega)
    rw [gm2.1, gm2.2.1, pm2.1, pm2.2.1, pm2.2.2.2]
    refine ⟨fun _ => ⟨by omega, by omega, by omega, ?_⟩, fun c2 => by omega⟩
    refine cm_lays q3 hm2 k1 k3 fun m4 hF4 hR4 => ⟨rfl, ?_⟩
    have gm4 := gmR_fr hF4 (by decide) gm2
    rw [gm4.1, gm4.2.1, w32i (z := gOff m 400 + 1) (by omega) (by omega), w32i (z := gOff m 401 - gOff m 400 - 1) (by omega) (by omega)]
    have hF5 : FrM wGm m4 (upM (upM m4 12 0 7 (gOff m 400 + 1)) 12 0 8 (gOff m 401 - gOff m 400 - 1)) := FrM_up (FrM_up (FrM_refl _ _) (by decide)) (by decide)
    have hR5 := hmR_fr hF5 (by decide) hR4
    refine ⟨trivial, ?_, ?_, ?_, ?_, ?_, Or.inr ⟨?_, ?_, ?_⟩⟩
    · rw [show gOff m 401 - gOff m 400 - 1 = gOff m 401 - (gOff m 400 + 1) by omega]
    · exact h_inv (hcR_fr hF5 (by decide) (hcR_fr hF4 (by decide) hR2)) hR5 (hSet_all q3 k1 k3).1
    · refine g_inv (g := upS (gOff m) 400 (gOff m 400 + 1)) ?_ (gmR_400 (by omega) (by omega) gm4) ?_
      · exact gcR_fr hF5 (by decide) (gcR_fr hF4 (by decide) gc2)
      · rw [hR5.1, hSet_10 q3 k1, hn10]
        exact gx_400 r3 (by omega)
    · exact FrM_trans (FrM_mono hF12 (by decide)) (FrM_trans (FrM_mono hF4 (by decide)) (FrM_mono hF5 (by decide)))
    · rw [hR5.1, hSet_10 q3 k1, hn10]
    · rw [FrM_n hF5 (by decide) (by decide), FrM_n hF4 (by decide) (by decide), h62]; omega
    · rw [FrM_n hF5 (by decide) (by decide), FrM_n hF4 (by decide) (by decide), h62]; omega
    · rw [FrM_n hF5 (by decide) (by decide), FrM_n hF4 (by decide) (by decide), h72]
  · refine Y_met rfl 0 rfl (sg_X12_redo_0 _ _ ⟨fun c2 => by omega, fun _ => ⟨trivial, rfl, hI, hC, FrM_refl _ _, rfl, Or.inl rfl⟩⟩)
end
