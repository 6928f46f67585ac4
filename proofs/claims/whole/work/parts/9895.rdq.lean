/-! the reference reads ranks: by what is left -/
def MtA (T : Int → Int) (n : Int) (f : Nat) : Prop := ∀ (k : Nat) (p o p2 : Int) (res : Option OpL), k ≤ 5 → RdZ T n f k p o p2 res → ∀ (m : AMem) (d : Nat) (Q : Option AV → AMem → Prop), PrM T n m p o → 0 ≤ o → o ≤ 6 → ndR k o ≤ d + 1 → (∀ m2, PstM m m2 p p2 res → Q none m2) → MtR d m Q k
def MtB (T : Int → Int) (n : Int) (f : Nat) : Prop := ∀ (p o p2 : Int) (res : Option OpL), RdZ T n f 5 p o p2 res → ∀ (m : AMem) (d : Nat) (Q : Option AV → AMem → Prop), PrM T n m p o → 0 ≤ o → o ≤ 6 → ndO o ≤ d → (∀ m2, PstM m m2 p p2 res → Q none m2) → MtX yX12_operand cX12_operand 2 none d [vr 12 0] m Q
def MtC (T : Int → Int) (n : Int) (f : Nat) : Prop := ∀ (r : Nat) (p o p2 : Int) (res : Option OpL), r < 5 → RdZ T n f (r + 10) p o p2 res → ∀ (m : AMem) (d : Nat) (Q : Option AV → AMem → Prop), PrM T n m p o → 0 ≤ o → o ≤ 6 → ndR r o ≤ d + 2 → (∀ m2, PstM m m2 p p2 res → Q none m2) → YR d m Q r
section
variable {m m1 m2 : AMem} {T : Int → Int} {n p o p1 p2 w : Int} {a b : OpL} {res : Option OpL} {f d : Nat} {Q : Option AV → AMem → Prop}
theorem PrM_14 (hP : PrM T n m p o) (h : FrE m m2) : m2 12 0 14 ≤ 120 := by
  rw [FrE_14 h, hP.1.1]
  exact hP.1.2.1
theorem mC_step (hA : MtA T n f) (hC : MtC T n f) : MtC T n (f + 1) := by
  intro r p o p2 res hr h m d Q hP ho ho6 hd hQ
  unfold ndR at hd
  have hl := Rd_l h
  have hpp := hP.2.2.2.2
  have hn := hP.1.2.1
  refine mY_go hr hP (by omega) (fun c => ?_) fun c => ?_
  · have hlt := jof_lt c
    have hj := jof_rg r (pkT T n p)
    obtain ⟨ec, ec1, ec2⟩ := jof_jc c
    have hP1 := PrM_mv hP (v := p + 1) (by omega) (by omega)
    have hF1 : FrE m (upM m 12 0 15 (p + 1)) := FrE_u5 FrE_refl
    have e18 : (upM m 12 0 15 (p + 1)) 12 0 18 = m 12 0 18 := up_i (by decide)
    rcases hl with ⟨c2, _⟩ | ⟨_, ⟨e, g⟩ | ⟨p1, a, b, g1, g2, e⟩⟩
    · omega
    · subst e
      have q1 := Rd_f _ _ _ _ _ _ (by omega) g (by omega)
      refine hA _ _ _ _ _ (by omega) g _ _ _ hP1 ho ho6 (by unfold ndR; omega) fun m2 hB => ⟨rfl, ?_⟩
      have hB2 : BdM m m2 p2 (m 12 0 18 + (p2 - p)) := BdM_pre hF1 hB (by rw [e18]; omega)
      have hb := q1.1
      have hb2 := q1.2.1
      refine cm_addB (by omega) hB2 (by omega) ⟨ec1, ec2⟩ fun m3 hB3 => ⟨rfl, ?_⟩
      have fin : Q none m3 := hQ m3 hB3
      unfold KRr
      split
      · exact fin
      · exact mY_bad hr hB3.2.2.1 (PrM_14 hP hB3.2.2.2.2) (by omega) (by rw [hB3.1]; exact hB3.2.1) fin
    · have q1 := Rd_f _ _ _ _ _ _ (by omega) g1 (by omega)
      have q2 := q1.2.2 a rfl
      refine hA _ _ _ _ _ (by omega) g1 _ _ _ hP1 ho ho6 (by unfold ndR; omega) fun m2 hA2 => ⟨rfl, ?_⟩
      have hA2 : AfM (upM m 12 0 15 (p + 1)) m2 p1 a := hA2
      have hPm := PrM_af hP1 hA2 q2.1 q1.2.1
      have hA3 := AfM_mv hA2
      have hb := q1.1
      have hb2 := q1.2.1
      refine cm_addA (o2 := (6 + jof r (pkT T n p), 0)) (by omega) hpp.1 hA3 (by have := hPm.2.2.2.2.2; omega) ec ⟨ec1, ec2⟩ (fun c => by simp only at c; omega) fun m3 hA4 => ⟨rfl, ?_⟩
      have hl4 : ((a ++ [(6 + jof r (pkT T n p), (0 : Int))]).length : Int) ≤ p1 - p := by rw [List.length_append]; simp only [List.length_cons, List.length_nil]; have := q2.1; omega
      have hP4 := PrM_af hP hA4 hl4 q1.2.1
      unfold KRr
      rcases g2 with ⟨c2, c3, c4⟩ | ⟨c3, g2⟩
      · subst c3 c4 e
        rw [if_pos c2]
        exact hQ m3 hA4
      · rw [if_neg c3]
        refine hC _ _ _ _ _ hr g2 _ _ _ hP4 ho ho6 (by unfold ndR; omega) fun m4 h4 => hQ m4 ?_
        have h5 := PstM_tr hA4 hl4 h4
        subst e
        cases b with
        | none => exact h5
        | some b =>
          have h5 : AfM m m4 p2 ((a ++ [(6 + jof r (pkT T n p), 0)]) ++ b) := h5
          rw [List.append_assoc] at h5
          exact h5
  · rcases hl with ⟨_, e1, e2⟩ | ⟨c2, _⟩
    · subst e1 e2
      exact hQ m (AfM_refl hP)
    · omega
theorem mA_step (hB : MtB T n (f + 1)) (hA : MtA T n f) (hC : MtC T n f) : MtA T n (f + 1) := by
  intro k p o p2 res hk h m d Q hP ho ho6 hd hQ
  unfold ndR at hd
  by_cases h5 : k = 5
  · subst h5
    exact hB _ _ _ _ h _ _ _ hP ho ho6 (by unfold ndO; omega) hQ
  · have hr := Rd_r (by omega) h
    obtain ⟨d, rfl, hd⟩ := dup1 (d := d) (n := 9 * (6 - o).toNat + 12 - k - 2) (by omega)
    refine mR_seg (by omega) ?_
    rcases hr with ⟨e, g⟩ | ⟨p1, a, b, g1, g2, e⟩
    · subst e
      exact hA _ _ _ _ _ (by omega) g _ _ _ hP ho ho6 (by unfold ndR; omega) fun m2 hB2 => ⟨rfl, mY_bad (by omega) hB2.2.2.1 (PrM_14 hP hB2.2.2.2.2) (by omega) (by rw [hB2.1]; exact hB2.2.1) ⟨trivial, hQ m2 hB2⟩⟩
    · have q1 := Rd_f _ _ _ _ _ _ (by omega) g1 hP.2.2.2.2.2.2.2
      have q2 := q1.2.2 a rfl
      refine hA _ _ _ _ _ (by omega) g1 _ _ _ hP ho ho6 (by unfold ndR; omega) fun m2 hA2 => ⟨rfl, ?_⟩
      have hA2 : AfM m m2 p1 a := hA2
      have hPm := PrM_af hP hA2 q2.1 q1.2.1
      refine hC _ _ _ _ _ (by omega) g2 _ _ _ hPm ho ho6 (by unfold ndR; omega) fun m4 h4 => ⟨trivial, hQ m4 ?_⟩
      subst e
      exact PstM_tr hA2 q2.1 h4
theorem mB_step (hA : MtA T n f) (hB : MtB T n f) : MtB T n (f + 1) := by
  intro p o p2 res h m d Q hP ho ho6 hd hQ
  unfold ndO at hd
  obtain ⟨d, rfl, hd⟩ := dup1 (d := d) (n := 9 * (6 - o).toNat + 5) (by omega)
  have hO := Rd_o h
  have hpp := hP.2.2.2.2
  have hn := hP.1.2.1
  have h15 := hP.2.1
  have h17 := hP.2.2.2.1
  have ht := PrM_pk hP
  have bb := fun c (h0 : (0 : Int) ≤ c) (h1 : c < 128) => bq ht.1 ht.2 h0 h1
  have fin : ∀ m2, PstM m m2 p p2 res → (fun r m2 => rk none r ∧ Q r m2) none m2 := fun m2 q => ⟨trivial, hQ m2 q⟩
  -- open it, and what then
  have opn : ∀ {Q2 : Option AV → AMem → Prop}, (pkT T n p = 40 ∨ pkT T n p = 33 ∨ pkT T n p = 45) → (o < 6 → PrM T n (upM (upM m 12 0 17 (o + 1)) 12 0 15 (p + 1)) (p + 1) (o + 1) → Q2 (some (vi 1)) (upM (upM m 12 0 17 (o + 1)) 12 0 15 (p + 1))) → (∀ m2, PstM m m2 p p2 res → Q2 (some (vi 0)) m2) → MtX yX12_opens cX12_opens 1 (some .boolean) d [vr 12 0] m Q2 := by
    intro Q2 c g1 g2
    have hlt := pkT_lt (T := T) (n := n) (p := p) (by omega)
    refine cm_opens (by omega) (fun c2 => ?_) (fun c2 c3 => by have := hP.2.2.1; omega) (fun c2 c3 => g2 _ ?_)
    · rw [h17, h15, w32i (by omega) (by omega), w32i (by omega) (by omega)]
      exact g1 (by omega) (PrM_mv (PrM_op hP) (by omega) (by omega))
    · obtain ⟨e1, e2⟩ := RdO_bad hO (nd_op c) (by rw [nm_op c]; decide) (Or.inr (by omega))
      subst e1 e2
      rw [h15]
      exact BdM_0 hP (by omega)
  have e18 : (upM (upM m 12 0 17 (o + 1)) 12 0 15 (p + 1)) 12 0 18 = m 12 0 18 := by rw [up_i (by decide), up_i (by decide)]
  have hF1 : FrE m (upM (upM m 12 0 17 (o + 1)) 12 0 15 (p + 1)) := FrE_u5 (FrE_u7 FrE_refl)
  have un : (pkT T n p = 33 ∨ pkT T n p = 45) → Y cX12_operand 2 RX12 (d + 1) none 46 [some (vr 12 0), some (vi (pkT T n p))] [] m (fun r m2 => rk none r ∧ Q r m2) := by
    intro c
    refine sg_X12_operand_46 _ _ _ (opn (Or.inr c) (fun c2 hP1 => ⟨_, rfl, fun _ => ?_, fun c => absurd c (by decide)⟩) fun m2 hB2 => ⟨_, rfl, fun c => absurd rfl c, fun _ => fin m2 hB2⟩)
    have hlt := pkT_lt (T := T) (n := n) (p := p) (by omega)
    obtain ⟨b, g, e⟩ := RdO_un hO c c2
    have q1 := Rd_f _ _ _ _ _ _ (by omega) g (by omega)
    refine hB _ _ _ _ g _ _ _ hP1 (by omega) (by omega) (by unfold ndO; omega) fun m5 h5 => ⟨rfl, ?_⟩
    cases b with
    | none =>
      have hB2 : BdM m m5 p2 (m 12 0 18 + (p2 - p)) := BdM_pre hF1 h5 (by rw [e18]; omega)
      subst e
      have hb := q1.1
      have hb2 := q1.2.1
      exact ⟨fun _ => cm_addB (by omega) (BdM_7 hB2) (by omega) (by decide) fun m3 hB3 => ⟨rfl, fin m3 hB3⟩, fun _ => cm_addB (by omega) (BdM_7 hB2) (by omega) (by decide) fun m3 hB3 => ⟨rfl, fin m3 hB3⟩⟩
    | some a =>
      have hA2 : AfM (upM (upM m 12 0 17 (o + 1)) 12 0 15 (p + 1)) m5 p2 a := h5
      have q2 := q1.2.2 a rfl
      have hPm := PrM_af hP1 hA2 q2.1 q1.2.1
      have e17 : w32 (m5 12 0 17 - 1) = m 12 0 17 := by
        rw [hPm.2.2.2.1, h17, w32i (by omega) (by omega)]; omega
      have hA3 : AfM m (upM m5 12 0 17 (w32 (m5 12 0 17 - 1))) p2 a := AfM_br (AfM_mv hA2) e17
      have h18 : (upM m5 12 0 17 (w32 (m5 12 0 17 - 1))) 12 0 18 ≤ 120 := by
        rw [up_i (by decide)]
        have := hPm.2.2.2.2.2
        omega
      subst e
      refine ⟨fun c3 => ?_, fun c3 => ?_⟩
      · refine cm_addA (o2 := (5, 0)) (by omega) hpp.1 hA3 h18 (by decide) (by decide) (fun c => absurd c (by decide)) fun m3 hA4 => ⟨rfl, fin m3 ?_⟩
        rw [if_neg c3]
        exact hA4
      · refine cm_addA (o2 := (4, 0)) (by omega) hpp.1 hA3 h18 (by decide) (by decide) (fun c => absurd c (by decide)) fun m3 hA4 => ⟨rfl, fin m3 ?_⟩
        rw [if_pos c3]
        exact hA4
  refine Y_met rfl 1 rfl (sg_X12_operand_0 _ _ (cm_lk hP (by omega) ⟨_, rfl, cm_nameOf (by omega) ⟨_, rfl, fun c => ?_, fun c => ?_⟩⟩))
  · rw [bn ht.1 ht.2] at c
    refine ⟨fun c2 => ?_, fun c2 => ⟨fun c3 => ⟨fun c4 => ?_, fun c4 => ?_⟩, fun c3 => ?_⟩⟩
    · have c3 := (bb 33 (by decide) (by decide)).mp c2
      have := un (Or.inl c3)
      rw [c3] at this
      rw [c2]
      exact this
    · have n33 : ¬ pkT T n p = 33 := fun z => c2 ((bb 33 (by decide) (by decide)).mpr z)
      have n45 : ¬ pkT T n p = 45 := fun z => c3 ((bb 45 (by decide) (by decide)).mpr z)
      have n40 : ¬ pkT T n p = 40 := fun z => c4 ((bb 40 (by decide) (by decide)).mpr z)
      by_cases hdg : dgt (pkT T n p)
      · rcases RdO_num hO hdg with ⟨K, k1, k2, k3, k4, e1, e2⟩ | ⟨k3, e1, e2⟩
        · refine cm_figure k2 k3 (Or.inr k4) hP (by omega) (fun _ _ m2 hA2 => ⟨rfl, fin m2 ?_⟩) fun c5 => ?_
          · subst e1 e2
            exact hA2
          · rcases c5 with c5 | c5
            · omega
            · exact absurd c5 k4
        · refine cm_figure (K := 4) (by omega) (fun i hi => k3 i (by omega)) (Or.inl rfl) hP (by omega) (fun _ c5 => absurd (k3 4 (by omega)) c5) fun _ m2 hB2 => ⟨rfl, fin m2 ?_⟩
          subst e1 e2
          exact BdM_pre FrE_refl hB2 (by omega)
      · obtain ⟨e1, e2⟩ := RdO_bad hO hdg c (Or.inl (by omega))
        refine cm_figure (K := 0) (by omega) (fun i hi => absurd hi (by omega)) (Or.inr ?_) hP (by omega) (fun c5 => absurd c5 (by omega)) fun _ m2 hB2 => ⟨rfl, fin m2 ?_⟩
        · rw [show p + ((0 : Nat) : Int) = p by omega]; exact hdg
        · subst e1 e2
          rw [show p2 + ((0 : Nat) : Int) = p2 by omega] at hB2
          exact BdM_pre FrE_refl hB2 (by omega)
    · have c5 := (bb 40 (by decide) (by decide)).mp c4
      have hlt := pkT_lt (T := T) (n := n) (p := p) (by omega)
      refine opn (Or.inl c5) (fun c6 hP1 => ⟨_, rfl, fun _ => ?_, fun c => absurd c (by decide)⟩) fun m2 hB2 => ⟨_, rfl, fun c => absurd rfl c, fun _ => fin m2 hB2⟩
      rcases RdO_par hO c5 c6 with ⟨e, g⟩ | ⟨p1, a, g, g2⟩
      · subst e
        refine hA 0 _ _ _ _ (by omega) g _ _ _ hP1 (by omega) (by omega) (by unfold ndR; omega) fun m5 h5 => ⟨rfl, ?_⟩
        have hB2 : BdM m m5 p2 (m 12 0 18 + (p2 - p) + 1) := BdM_pre hF1 h5 (by rw [e18]; omega)
        refine ⟨fun c7 => ?_, fun _ => fin m5 hB2⟩
        have z1 := hB2.1
        have z2 := hB2.2.1
        omega
      · have q1 := Rd_f _ _ _ _ _ _ (by omega) g (by omega)
        have q2 := q1.2.2 a rfl
        refine hA 0 _ _ _ _ (by omega) g _ _ _ hP1 (by omega) (by omega) (by unfold ndR; omega) fun m5 h5 => ⟨rfl, ?_⟩
        have hA2 : AfM (upM (upM m 12 0 17 (o + 1)) 12 0 15 (p + 1)) m5 p1 a := h5
        have hPm := PrM_af hP1 hA2 q2.1 q1.2.1
        have hA3 := AfM_mv hA2
        have hbm := PrM_pk hPm
        refine ⟨fun _ => cm_lk hPm (by omega) ⟨_, rfl, fun c7 => fin _ ?_, fun c7 => cm_wrong (by omega) (fun c8 => by have := hPm.2.2.1; omega) fun _ => ⟨rfl, fin _ ?_⟩⟩, fun c7 => by have := hPm.2.2.1; omega⟩
        · have c8 := (bq hbm.1 hbm.2 (by decide) (by decide)).mp c7
          rcases g2 with ⟨_, e1, e2⟩ | ⟨c9, _⟩
          · have hlt1 := pkT_lt (T := T) (n := n) (p := p1) (by omega)
            have e17 : w32 (m5 12 0 17 - 1) = m 12 0 17 := by
              rw [hPm.2.2.2.1, h17, w32i (by omega) (by omega)]; omega
            have hp1 := q1.1
            rw [hPm.2.1, w32i (z := p1 + 1) (by omega) (by omega)]
            subst e1 e2
            have hA4 : AfM (upM m 12 0 17 (o + 1)) (upM m5 12 0 15 (p1 + 1)) (p1 + 1) a := AfM_m2 hA3
            exact AfM_br hA4 e17
          · exact absurd c8 c9
        · rcases g2 with ⟨c9, _⟩ | ⟨_, e1, e2⟩
          · exact absurd ((bq hbm.1 hbm.2 (by decide) (by decide)).mpr c9) c7
          · rw [hPm.2.1]
            subst e1 e2
            have z := q2.1
            have z2 := hA2.2.2.2.1
            rw [e18] at z2
            exact BdM_pre (FrE_trans hF1 hA2.2.2.2.2.2.2) (BdM_0 hPm (Int.le_refl _)) (by omega)
    · have c4 := (bb 45 (by decide) (by decide)).mp c3
      have := un (Or.inr c4)
      rw [c4] at this
      rw [c3]
      exact this
  · rw [bn ht.1 ht.2] at c
    have hnd : ¬ dgt (pkT T n p) := by
      intro z
      unfold dgt at z
      revert c
      unfold nmF
      (repeat' split) <;> omega
    have hlt := nmF_lt (T := T) (n := n) (p := p) (by omega)
    obtain ⟨e1, e2⟩ := RdO_name hO hnd (by omega)
    have hr := nmF_rg (pkT T n p)
    refine cm_nameOf (by omega) ⟨_, rfl, cm_addA (o2 := (1, nmF (pkT T n p))) (by omega) hpp.1 (AfM_refl hP) (by omega) (show (2 : Int) = mcF 1 by decide) (by decide) (fun _ => bn ht.1 ht.2) fun m3 hA4 => ⟨rfl, fin _ ?_⟩⟩
    rw [hA4.1, w32i (by omega) (by omega)]
    subst e1 e2
    exact AfM_m2 hA4
theorem cm_rd : ∀ f, MtA T n f ∧ MtB T n f ∧ MtC T n f := by
  intro f
  induction f with
  | zero => exact ⟨fun k p o p2 res _ h => absurd h id, fun p o p2 res h => absurd h id, fun r p o p2 res _ h => absurd h id⟩
  | succ f ih =>
    obtain ⟨hA, hB, hC⟩ := ih
    have hB2 := mB_step hA hB
    exact ⟨mA_step hB2 hA hC, hB2, mC_step hA hC⟩
end
