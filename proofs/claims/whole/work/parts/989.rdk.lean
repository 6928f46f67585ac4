/-! the reference reads operands -/
section
variable {m m1 m2 : AMem} {T : Int → Int} {n p o p1 p2 w : Int} {a b : OpL} {res : Option OpL} {f d : Nat} {Q : Option AV → AMem → Prop}
def MtR (d : Nat) (m : AMem) (Q : Option AV → AMem → Prop) : Nat → Prop
  | 0 => MtX yX12_either cX12_either 1 none d [vr 12 0] m Q
  | 1 => MtX yX12_both cX12_both 1 none d [vr 12 0] m Q
  | 2 => MtX yX12_compared cX12_compared 2 none d [vr 12 0] m Q
  | 3 => MtX yX12_sum cX12_sum 2 none d [vr 12 0] m Q
  | 4 => MtX yX12_product cX12_product 2 none d [vr 12 0] m Q
  | _ => MtX yX12_operand cX12_operand 2 none d [vr 12 0] m Q
def cmpY (d : Nat) (m1 : AMem) (Q : Option AV → AMem → Prop) : Prop := MtX yX12_look cX12_look 1 (some .int) d [vr 12 0] m1 (fun r m3 => ∃ x5 : Int, r = some (vi x5) ∧ (((0 : Int) ≤ (m3 12 0 16) → (Q none m3)) ∧ (¬ (0 : Int) ≤ (m3 12 0 16) → ((x5 = (60 : Int) → (MtX yX12_sum cX12_sum 2 none d [vr 12 0] (upM m3 12 0 15 (w32 ((m3 12 0 15) + 1))) (fun r m8 => r = none ∧ (MtX yX12_addStep cX12_addStep 3 none d [vr 12 0, vi x5, vi 0] m8 (fun r m10 => r = none ∧ (Q none m10)))))) ∧ (¬ x5 = (60 : Int) → ((x5 = (61 : Int) → (MtX yX12_sum cX12_sum 2 none d [vr 12 0] (upM m3 12 0 15 (w32 ((m3 12 0 15) + 1))) (fun r m13 => r = none ∧ (MtX yX12_addStep cX12_addStep 3 none d [vr 12 0, vi x5, vi 0] m13 (fun r m15 => r = none ∧ (Q none m15)))))) ∧ (¬ x5 = (61 : Int) → ((x5 = (62 : Int) → (MtX yX12_sum cX12_sum 2 none d [vr 12 0] (upM m3 12 0 15 (w32 ((m3 12 0 15) + 1))) (fun r m18 => r = none ∧ (MtX yX12_addStep cX12_addStep 3 none d [vr 12 0, vi x5, vi 0] m18 (fun r m20 => r = none ∧ (Q none m20)))))) ∧ (¬ x5 = (62 : Int) → (Q none m3))))))))))
def YR (d : Nat) (m : AMem) (Q : Option AV → AMem → Prop) : Nat → Prop
  | 0 => Y cX12_either 1 RX12 (d + 1) none 4 [some (vr 12 0)] [] m Q
  | 1 => Y cX12_both 1 RX12 (d + 1) none 4 [some (vr 12 0)] [] m Q
  | 2 => cmpY d m Q
  | 3 => Y cX12_sum 2 RX12 (d + 1) none 4 [some (vr 12 0), none] [] m Q
  | _ => Y cX12_product 2 RX12 (d + 1) none 4 [some (vr 12 0), none] [] m Q
def KRr (d : Nat) (m : AMem) (Q : Option AV → AMem → Prop) (r : Nat) : Prop := if r = 2 then Q none m else YR d m Q r
theorem mR_seg {k : Nat} (hk : k < 5) (h : MtR d m (fun r m1 => r = none ∧ YR d m1 (fun r m2 => rk none r ∧ Q r m2) k) (k + 1)) : MtR (d + 1) m Q k := by
  have e : k = 0 ∨ k = 1 ∨ k = 2 ∨ k = 3 ∨ k = 4 := by omega
  rcases e with rfl | rfl | rfl | rfl | rfl
  · exact Y_met rfl 0 rfl (sg_X12_either_0 _ _ h)
  · exact Y_met rfl 0 rfl (sg_X12_both_0 _ _ h)
  · exact Y_met rfl 1 rfl (sg_X12_compared_0 _ _ h)
  · exact Y_met rfl 1 rfl (sg_X12_sum_0 _ _ h)
  · exact Y_met rfl 1 rfl (sg_X12_product_0 _ _ h)
theorem mY_bad {k : Nat} (hk : k < 5) (h0 : 0 ≤ m 12 0 15) (hn : m 12 0 14 ≤ 120) (hd : 1 ≤ d) (h1 : 0 ≤ m 12 0 16) (h : Q none m) : YR d m Q k := by
  have e : k = 0 ∨ k = 1 ∨ k = 2 ∨ k = 3 ∨ k = 4 := by omega
  rcases e with rfl | rfl | rfl | rfl | rfl
  · exact sg_X12_either_4 _ _ ⟨fun _ => h, fun c => absurd h1 c⟩
  · exact sg_X12_both_4 _ _ ⟨fun _ => h, fun c => absurd h1 c⟩
  · exact cm_look h0 hn hd ⟨_, rfl, fun _ => h, fun c => absurd h1 c⟩
  · exact sg_X12_sum_4 _ _ ⟨fun _ => h, fun c => absurd h1 c⟩
  · exact sg_X12_product_4 _ _ ⟨fun _ => h, fun c => absurd h1 c⟩
theorem mY_go {k : Nat} (hk : k < 5) (hP : PrM T n m p o) (hd : 1 ≤ d) (h1 : 0 ≤ jof k (pkT T n p) → MtR d (upM m 12 0 15 (p + 1)) (fun r m6 => r = none ∧ MtX yX12_addStep cX12_addStep 3 none d [vr 12 0, vi (pkT T n p), vi 0] m6 (fun r m8 => r = none ∧ KRr d m8 Q k)) (k + 1)) (h2 : jof k (pkT T n p) < 0 → Q none m) : YR d m Q k := by
  have ht := PrM_pk hP
  have lk : ∀ {Q : Option AV → AMem → Prop}, Q (some (vi (b8 (pkT T n p)))) m → MtX yX12_look cX12_look 1 (some .int) d [vr 12 0] m Q := fun h => cm_lk hP hd h
  have h16 := hP.2.2.1
  have h15 := hP.2.1
  have hpp := hP.2.2.2.2.2.2
  have hn := hP.1.2.1
  have e15 : w32 (m 12 0 15 + 1) = p + 1 := by rw [h15, w32i (by omega) (by omega)]
  have q := fun c (h0 : (0 : Int) ≤ c) (h1 : c < 128) => bq ht.1 ht.2 h0 h1
  generalize pkT T n p = t at ht lk q h1 h2
  have e : k = 0 ∨ k = 1 ∨ k = 2 ∨ k = 3 ∨ k = 4 := by omega
  rcases e with rfl | rfl | rfl | rfl | rfl
  · refine sg_X12_either_4 _ _ ⟨fun c => by omega, fun _ => lk ⟨_, rfl, fun c => h2 ?_, fun c => ?_⟩⟩
    · have c : ¬ t = 124 := fun z => c ((q 124 (by decide) (by decide)).mpr z)
      simp [jof, c]
    · have c := (q 124 (by decide) (by decide)).mp c
      subst c
      rw [e15]
      exact h1 (by decide)
  · refine sg_X12_both_4 _ _ ⟨fun c => by omega, fun _ => lk ⟨_, rfl, fun c => h2 ?_, fun c => ?_⟩⟩
    · have c : ¬ t = 38 := fun z => c ((q 38 (by decide) (by decide)).mpr z)
      simp [jof, c]
    · have c := (q 38 (by decide) (by decide)).mp c
      subst c
      rw [e15]
      exact h1 (by decide)
  · refine lk ⟨_, rfl, fun c => by omega, fun _ => ⟨fun c => ?_, fun c => ⟨fun c2 => ?_, fun c2 => ⟨fun c3 => ?_, fun c3 => h2 ?_⟩⟩⟩⟩
    · have c := (q 60 (by decide) (by decide)).mp c
      subst c
      rw [e15]
      exact h1 (by decide)
    · have c := (q 61 (by decide) (by decide)).mp c2
      subst c
      rw [e15]
      exact h1 (by decide)
    · have c := (q 62 (by decide) (by decide)).mp c3
      subst c
      rw [e15]
      exact h1 (by decide)
    · have c : ¬ t = 60 := fun z => c ((q 60 (by decide) (by decide)).mpr z)
      have c2 : ¬ t = 61 := fun z => c2 ((q 61 (by decide) (by decide)).mpr z)
      have c3 : ¬ t = 62 := fun z => c3 ((q 62 (by decide) (by decide)).mpr z)
      simp [jof, c, c2, c3]
  · have go : 0 ≤ jof 3 t → b8 t = t → Y cX12_sum 2 RX12 (d + 1) none 29 [some (vr 12 0), none] [] m Q := by
      intro c c2
      refine sg_X12_sum_29 _ _ (lk ⟨_, rfl, ?_⟩)
      rw [e15, c2]
      exact MtX_mono (h1 c) fun r m6 hq => ⟨hq.1, MtX_mono hq.2 fun r m8 hk => ⟨hk.1, Y_fg (by exact ⟨rfl, trivial⟩) hk.2⟩⟩
    refine sg_X12_sum_4 _ _ ⟨fun c => by omega, fun _ => lk ⟨_, rfl, fun c => ?_, fun c => lk ⟨_, rfl, fun c2 => h2 ?_, fun c2 => ?_⟩⟩⟩
    · have c3 := (q 43 (by decide) (by decide)).mp c
      exact go (by rw [c3]; decide) (by rw [c, c3])
    · have c : ¬ t = 43 := fun z => c ((q 43 (by decide) (by decide)).mpr z)
      have c2 : ¬ t = 45 := fun z => c2 ((q 45 (by decide) (by decide)).mpr z)
      simp [jof, c, c2]
    · have c3 := (q 45 (by decide) (by decide)).mp c2
      exact go (by rw [c3]; decide) (by rw [c2, c3])
  · have go : 0 ≤ jof 4 t → b8 t = t → Y cX12_product 2 RX12 (d + 1) none 38 [some (vr 12 0), none] [] m Q := by
      intro c c2
      refine sg_X12_product_38 _ _ (lk ⟨_, rfl, ?_⟩)
      rw [e15, c2]
      exact MtX_mono (h1 c) fun r m6 hq => ⟨hq.1, MtX_mono hq.2 fun r m8 hk => ⟨hk.1, Y_fg (by exact ⟨rfl, trivial⟩) hk.2⟩⟩
    refine sg_X12_product_4 _ _ ⟨fun c => by omega, fun _ => lk ⟨_, rfl, fun c => ?_, fun c => lk ⟨_, rfl, fun c2 => ?_, fun c2 => lk ⟨_, rfl, fun c3 => h2 ?_, fun c3 => ?_⟩⟩⟩⟩
    · have c3 := (q 42 (by decide) (by decide)).mp c
      exact go (by rw [c3]; decide) (by rw [c, c3])
    · have c3 := (q 47 (by decide) (by decide)).mp c2
      exact go (by rw [c3]; decide) (by rw [c2, c3])
    · have c : ¬ t = 42 := fun z => c ((q 42 (by decide) (by decide)).mpr z)
      have c2 : ¬ t = 47 := fun z => c2 ((q 47 (by decide) (by decide)).mpr z)
      have c3 : ¬ t = 37 := fun z => c3 ((q 37 (by decide) (by decide)).mpr z)
      simp [jof, c, c2, c3]
    · have c4 := (q 37 (by decide) (by decide)).mp c3
      exact go (by rw [c4]; decide) (by rw [c3, c4])
theorem jof_jc {r : Nat} {t : Int} (h : 0 ≤ jof r t) : t = mcF (6 + jof r t) ∧ 0 ≤ t ∧ t < 128 := by
  have key : t = 124 ∨ t = 38 ∨ t = 60 ∨ t = 61 ∨ t = 62 ∨ t = 43 ∨ t = 45 ∨ t = 42 ∨ t = 47 ∨ t = 37 := by
    unfold jof at h
    (repeat' split at h) <;> omega
  have hr : r = 0 ∨ r = 1 ∨ r = 2 ∨ r = 3 ∨ r = 4 := by
    refine Decidable.byContradiction fun q => ?_
    unfold jof at h
    rw [if_neg (by omega), if_neg (by omega), if_neg (by omega), if_neg (by omega), if_neg (by omega)] at h
    omega
  rcases key with rfl | rfl | rfl | rfl | rfl | rfl | rfl | rfl | rfl | rfl <;> rcases hr with rfl | rfl | rfl | rfl | rfl <;> (revert h; decide)
/-! a figure -/
theorem cm_opens (hd : 2 ≤ d) (h1 : m 12 0 17 ≠ 6 → Q (some (vi 1)) (upM (upM m 12 0 17 (w32 (m 12 0 17 + 1))) 12 0 15 (w32 (m 12 0 15 + 1)))) (h2 : m 12 0 17 = 6 → 0 ≤ m 12 0 16 → Q (some (vi 0)) m) (h3 : m 12 0 17 = 6 → m 12 0 16 < 0 → Q (some (vi 0)) (upM m 12 0 16 (m 12 0 15))) : MtX yX12_opens cX12_opens 1 (some .boolean) d [vr 12 0] m Q := by
  obtain ⟨d, rfl, hd⟩ := dup1 hd
  refine Y_met rfl 0 rfl (sg_X12_opens_0 _ _ ⟨fun c => ⟨Or.inr rfl, ?_⟩, fun c => cm_wrong (by omega) (fun c2 => ⟨rfl, Or.inl rfl, h2 c c2⟩) fun c2 => ⟨rfl, Or.inl rfl, h3 c c2⟩⟩)
  have q := h1 c
  exact q
theorem numM_le (hP : PrM T n m p o) : ∀ {i : Nat}, (∀ j : Nat, j < i → dgt (pkT T n (p + j))) → p + i ≤ n := by
  intro i h
  cases i with
  | zero => have := hP.2.2.2.2.2.2.2; omega
  | succ i => have := dgt_lt (h i (by omega)); omega
/-- figures up to K, then what stands behind them -/
theorem cm_num {K : Nat} (hK : K ≤ 4) (hdg : ∀ i : Nat, i < K → dgt (pkT T n (p + i))) (hend : K = 4 ∨ ¬ dgt (pkT T n (p + K))) (hP : PrM T n m p o) (hd : 2 ≤ d) (h : Y cX12_figure 3 RX12 (d + 1) none 52 [some (vr 12 0), some (vi (nuV T p K)), some (vi K)] [] (upM m 12 0 15 (p + K)) Q) :
    ∀ (j i : Nat), i + j = K → Y cX12_figure 3 RX12 (d + 1) none 4 [some (vr 12 0), some (vi (nuV T p i)), some (vi i)] [] (upM m 12 0 15 (p + i)) Q := by
  have hq : ∀ i : Nat, i ≤ K → PrM T n (upM m 12 0 15 (p + i)) (p + i) o := fun i hi => PrM_mv hP (by omega) (numM_le hP fun j hj => hdg j (by omega))
  have eT : ∀ i : Nat, i < K → pkT T n (p + i) = T (p + i) := fun i hi => pkT_T (dgt_lt (hdg i hi))
  have hn := hP.1.2.1
  intro j
  induction j with
  | zero =>
    intro i hi
    obtain rfl : i = K := by omega
    refine sg_X12_figure_4 _ _ _ _ ⟨fun _ => h, fun c => cm_lk (hq i (by omega)) (by omega) ⟨_, rfl, cm_inD (by omega) (fun q => ?_) fun _ => ⟨_, rfl, fun _ => h, fun c => absurd rfl c⟩⟩⟩
    have hb := PrM_pk (hq i (by omega))
    rw [bd hb.1 hb.2] at q
    rcases hend with e | e
    · omega
    · exact absurd q e
  | succ j ih =>
    intro i hi
    have hb := PrM_pk (hq i (by omega))
    refine sg_X12_figure_4 _ _ _ _ ⟨fun c => by omega, fun _ => cm_lk (hq i (by omega)) (by omega) ⟨_, rfl, cm_inD (by omega) (fun _ => ⟨_, rfl, fun c => absurd c (by decide), fun _ => cm_lk (hq i (by omega)) (by omega) ⟨_, rfl, ?_⟩⟩) fun q => ?_⟩⟩
    · have r1 := nuV_9 (T := T) (p := p) (k := i) (by omega) (fun j hj => by rw [← eT j (by omega)]; exact hdg j (by omega))
      have r2 := hdg i (by omega)
      have r3 := (hq i (by omega)).2.2.2.2.2.2
      rw [up_w, up_s]
      rw [eT i (by omega)] at r2 ⊢
      unfold dgt at r2
      rw [b8v (by omega) (by omega), if_pos (by omega)]
      have e1 : w32 (w32 (w32 (10 * nuV T p i) + T (p + i)) - 48) = nuV T p (i + 1) := by
        rw [w32i (z := 10 * nuV T p i) (by omega) (by omega), w32i (z := 10 * nuV T p i + T (p + i)) (by omega) (by omega), w32i (by omega) (by omega)]
        show 10 * nuV T p i + T (p + i) - 48 = nuV T p i * 10 + T (p + i) - 48
        omega
      have e2 : w32 (((i : Nat) : Int) + 1) = ((i + 1 : Nat) : Int) := w32n (by omega)
      have e3 : w32 (p + i + 1) = p + ((i + 1 : Nat) : Int) := w32p r3.1 (Int.le_trans r3.2 (Int.le_trans hn (by decide)))
      rw [e1, e2, e3]
      exact ih (i + 1) (by omega)
    · rw [bd hb.1 hb.2] at q
      exact absurd (hdg i (by omega)) q
theorem cm_figure {K : Nat} (hK : K ≤ 4) (hdg : ∀ i : Nat, i < K → dgt (pkT T n (p + i))) (hend : K = 4 ∨ ¬ dgt (pkT T n (p + K))) (hP : PrM T n m p o) (hd : 3 ≤ d)
    (h1 : 1 ≤ K → ¬ dgt (pkT T n (p + K)) → ∀ m2, AfM m m2 (p + K) [(0, nuV T p K)] → Q none m2) (h2 : K = 0 ∨ dgt (pkT T n (p + K)) → ∀ m2, BdM m m2 (p + K) (m 12 0 18 + 1) → Q none m2) : MtX yX12_figure cX12_figure 3 none d [vr 12 0] m Q := by
  obtain ⟨d, rfl, hd⟩ := dup1 hd
  refine Y_met rfl 2 rfl (sg_X12_figure_0 _ _ ?_)
  have hq : PrM T n (upM m 12 0 15 (p + K)) (p + K) o := PrM_mv hP (by omega) (numM_le hP hdg)
  have hb := PrM_pk hq
  have h18 := hP.2.2.2.2.1
  have h18b := hP.2.2.2.2.2
  have hn := hP.1.2.1
  have e18 : (upM m 12 0 15 (p + K)) 12 0 18 = m 12 0 18 := up_i (by decide)
  have wr : ∀ {Q2 : Option AV → AMem → Prop}, Q2 none (upM (upM m 12 0 15 (p + K)) 12 0 16 (p + K)) → MtX yX12_wrong cX12_wrong 1 none d [vr 12 0] (upM m 12 0 15 (p + K)) Q2 := by
    intro Q2 hQ
    have e16 := hq.2.2.1
    have e15 := hq.2.1
    exact cm_wrong (by omega) (fun c => by omega) fun _ => by rw [e15]; exact hQ
  have bb : BdM m (upM (upM m 12 0 15 (p + K)) 12 0 16 (p + K)) (p + K) (m 12 0 18) := BdM_pre (FrE_u5 FrE_refl) (BdM_0 hq (Int.le_refl _)) (by omega)
  have fin := cm_num (m := m) (d := d) (Q := fun r m2 => rk none r ∧ Q r m2) hK hdg hend hP (by omega) ?_ K 0 (by omega)
  · rwa [up_id (by rw [hP.2.1]; omega)] at fin
  · refine sg_X12_figure_52 _ _ _ _ ⟨fun c => wr ⟨rfl, ?_⟩, fun c => cm_lk hq (by omega) ⟨_, rfl, cm_inD (by omega) (fun q => ⟨_, rfl, fun c => absurd c (by decide), fun _ => wr ⟨rfl, ?_⟩⟩) fun q => ⟨_, rfl, fun _ => ?_, fun c => absurd rfl c⟩⟩⟩
    · exact cm_addB (by omega) bb (by omega) (by decide) fun m3 hB => ⟨rfl, trivial, h2 (Or.inl (by omega)) m3 hB⟩
    · rw [bd hb.1 hb.2] at q
      exact cm_addB (by omega) bb (by omega) (by decide) fun m3 hB => ⟨rfl, trivial, h2 (Or.inr q) m3 hB⟩
    · rw [bd hb.1 hb.2] at q
      exact cm_addA (m := m) (o2 := (0, nuV T p K)) (by omega) h18 (AfM_m2 (AfM_refl hP)) (by rw [e18]; omega) (show (1 : Int) = mcF 0 by decide) (by decide) (fun _ => rfl) fun m3 hA => ⟨rfl, trivial, h1 (by omega) q m3 hA⟩
end
