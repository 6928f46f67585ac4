/-! the search of the class -/
section
variable {d : Nat} {p s : StR} {L : Option LnL} {Q : Option AV → AMem → Prop}
def bsC (m : AMem) (b : BsT) : Prop := m 8 0 3 = b.1 ∧ ∀ i : Int, 0 ≤ i → i < 5 → m 902 0 i = b.2 i
theorem bsC_c {m : AMem} {b : BsT} {x : Int} {f : Int → Int} (h : bsC m b) (h1 : b.1 = x) (h2 : ∀ i : Int, 0 ≤ i → i < 5 → b.2 i = f i) : bsC m (x, f) := ⟨h.1.trans h1, fun i i0 i1 => (h.2 i i0 i1).trans (h2 i i0 i1)⟩
def wSe : List Nat := [7, 800, 801, 802, 402, 901, 902, 8]
/-- what a walk from level l on may write -/
def FrX (l : Nat) (m m2 : AMem) : Prop := ∀ k j i, (cdc k i ∉ wSe ∨ (scK k = true ∧ j < l + 2) ∨ (k = 8 ∧ i ≠ 3) ∨ (k = 901 ∧ i < l)) → m2 k j i = m k j i
theorem FrX_refl (l : Nat) (m : AMem) : FrX l m m := fun _ _ _ _ => rfl
theorem FrX_trans {l : Nat} {m m2 m3 : AMem} (h : FrX l m m2) (h2 : FrX l m2 m3) : FrX l m m3 := fun k j i hc => (h2 k j i hc).trans (h k j i hc)
theorem FrX_mono {l l2 : Nat} {m m2 : AMem} (h : FrX l2 m m2) (hl : l ≤ l2) : FrX l m m2 := fun k j i hc => h k j i (by
  rcases hc with q | ⟨q1, q2⟩ | q | ⟨q1, q2⟩
  · exact Or.inl q
  · exact Or.inr (Or.inl ⟨q1, by omega⟩)
  · exact Or.inr (Or.inr (Or.inl q))
  · exact Or.inr (Or.inr (Or.inr ⟨q1, by omega⟩)))
theorem FrX_S {l : Nat} {m m2 : AMem} (h : FrS wSc (l + 2) m m2) : FrX l m m2 := fun k j i hc => by
  by_cases c : cdc k i ∈ wSc
  · refine h k j i (Or.inr ?_)
    have k12 : k ≠ 12 := fun e => by
      subst e
      unfold cdc wSc at c
      rw [if_pos rfl] at c
      simp only [List.mem_cons, List.not_mem_nil, or_false] at c
      omega
    have ec : cdc k i = k := if_neg k12
    rcases hc with q | ⟨q1, q2⟩ | q | q
    · rw [ec] at q c
      exact absurd (by revert c; unfold wSc wSe; simp only [List.mem_cons, List.not_mem_nil, or_false]; omega) q
    · exact ⟨q1, by omega⟩
    · rw [ec, q.1] at c
      exact absurd c (by decide)
    · rw [ec, q.1] at c
      exact absurd c (by decide)
  · exact h k j i (Or.inl c)
theorem FrX_u {l : Nat} {m m2 : AMem} {k : Nat} {i v : Int} (h : FrX l m m2) (hk : (k = 901 ∧ (l : Int) ≤ i) ∨ k = 902 ∨ (k = 8 ∧ i = 3)) : FrX l m (upM m2 k 0 i v) := fun k2 j2 i2 hc => by
  rw [← h k2 j2 i2 hc]
  by_cases e : k2 = k ∧ i2 = i
  · exfalso
    obtain ⟨e1, e2⟩ := e
    subst e1 e2
    rcases hc with q | q | q | q
    · refine q ?_
      rcases hk with g | g | g
      · rw [g.1]; exact (by decide : cdc 901 0 ∈ wSe)
      · rw [g]; exact (by decide : cdc 902 0 ∈ wSe)
      · rw [g.1]; exact (by decide : cdc 8 0 ∈ wSe)
    · rcases hk with g | g | g
      · rw [g.1] at q; exact absurd q.1 (by decide)
      · rw [g] at q; exact absurd q.1 (by decide)
      · rw [g.1] at q; exact absurd q.1 (by decide)
    · omega
    · omega
  · by_cases e1 : k2 = k
    · subst e1
      exact up_i (fun g => e ⟨rfl, g⟩)
    · exact up_k e1
theorem FrX_n {l : Nat} {m m2 : AMem} (h : FrX l m m2) {k j : Nat} {i : Int} (hk : k ≠ 12) (hc : k ∉ wSe) : m2 k j i = m k j i := h k j i (Or.inl (by unfold cdc; rw [if_neg hk]; exact hc))
theorem FrX_M {l : Nat} {m m2 : AMem} (h : FrX l m m2) : FrM wSe m m2 := fun k j i hc => h k j i (Or.inl hc)
theorem cc_goOn {j j1 : Nat} {m : AMem} (hne : j1 ≠ j) (hp : OkPa p) (hR : RepC m j1 p s) (h : ∀ m2, FrS wSc j m m2 → RepC m2 j p s → Q none m2) : MtX yX7_goOnFrom cX7_goOnFrom 2 none (d + 2) [vr 7 j, vr 7 j1] m Q := by
  have hn := hp.1
  refine Y_met rfl 0 rfl (sg_X7_goOnFrom_0 _ _ hne _ _ (cc_copyS hne fun m2 hF hC => ⟨rfl, trivial, ?_⟩))
  have e : ∀ q, m2 7 j1 q = m 7 j1 q := fun q => FrS_n hF (by decide) (by decide)
  refine h _ ?_ ?_
  · (repeat (refine FrS_u ?_ (by decide) (by decide)))
    exact FrS_mono hF (by decide)
  · obtain ⟨r1, r2, r3⟩ := hR
    refine ⟨fun i i0 i1 => ?_, ?_, ?_⟩
    · simp only [upM, Nat.reduceEqDiff, if_false]
      rw [(hC i i0 (by omega)).1, (hC i i0 (by omega)).2]
      exact r1 i i0 i1
    · simp only [e]
      simp [upM]
      exact r2
    · simp only [e]
      simp [upM]
      exact r3
/-- LOST, where moves back save him no more -/
def guS (p s : StR) : StR := if s 26 = 0 then (if s 21 = 0 then upS s 26 3 else if s 21 ≤ p 14 - s 22 then s else upS s 26 3) else s
theorem guS_run {L : Option LnL} : runF p L twoM 8 (guS p s) = cbS p L s := by
  have lost : runF p L twoM 8 (upS s 26 3) = upS s 26 3 := runF_e (by rw [upS_s]; decide)
  unfold guS cbS
  by_cases c : s 26 = 0
  · rw [if_pos c, if_pos c]
    by_cases c2 : s 21 = 0
    · rw [if_pos c2, if_pos c2, lost]
    · rw [if_neg c2, if_neg c2]
      by_cases c3 : s 21 ≤ p 14 - s 22
      · rw [if_pos c3, if_pos c3]
      · rw [if_neg c3, if_neg c3, lost]
  · rw [if_neg c, if_neg c, runF_e c]
theorem guS_22 : guS p s 22 = s 22 := by
  unfold guS
  (repeat' split) <;> first | rfl | exact upS_n (by decide)
theorem guS_ok (hn : p 10 ≤ 7) (hs : OkSt p s) : OkSt p (guS p s) := by
  have l : OkSt p (upS s 26 3) := okS_of hn hs (fun k hk => upS_n (by omega)) (by rw [upS_n (by decide)]; exact hs.2.1) (by rw [upS_n (by decide)]; exact hs.2.2.1) (by rw [upS_n (by decide)]; exact hs.2.2.2.1) (by rw [upS_n (by decide)]; exact hs.2.2.2.2)
  unfold guS
  (repeat' split) <;> first | exact hs | exact l
theorem cc_giveUp {j : Nat} {m : AMem} (hp : OkPa p) (h22 : 0 ≤ s 22 ∧ s 22 ≤ 100) (h14 : 0 ≤ p 14 ∧ p 14 ≤ 100) (hR : RepC m j p s) (h : ∀ m2, FrS wSc j m m2 → RepC m2 j p (guS p s) → Q none m2) : MtX yX7_giveUpIfTooLate cX7_giveUpIfTooLate 1 none (d + 1) [vr 7 j] m Q := by
  have hn := hp.1
  have e13 : m 7 j 13 = s 26 := hR.2.2.2.2.2.2.2.2.2
  have e5 : m 7 j 5 = s 21 := hR.2.2.2.1
  have e6 : m 7 j 6 = p 14 := hR.2.1.2.1
  have e8 : m 7 j 8 = s 22 := hR.2.2.2.2.1
  have lost : guS p s = upS s 26 3 → Q none (upM m 7 j 13 3) := fun e => h _ (FrS_u (FrS_refl _ _ _) (by decide) (by decide)) (by rw [e]; exact RepC_u hn.2 (by decide) hR)
  refine Y_met rfl 0 rfl (sg_X7_giveUpIfTooLate_0 _ _ _ ?_)
  rw [e13, e5, e6, e8, w32i (z := p 14 - s 22) (by omega) (by omega)]
  refine ⟨fun c => ⟨trivial, ?_⟩, fun c => ⟨fun c2 => ⟨trivial, lost ?_⟩, fun c2 => ⟨fun c3 => ⟨trivial, ?_⟩, fun c3 => ⟨trivial, lost ?_⟩⟩⟩⟩
  · exact h m (FrS_refl _ _ _) (by unfold guS; rw [if_neg c]; exact hR)
  · unfold guS; rw [if_pos c, if_pos c2]
  · exact h m (FrS_refl _ _ _) (by unfold guS; rw [if_pos c, if_neg c2, if_pos c3]; exact hR)
  · unfold guS; rw [if_pos c, if_neg c2, if_neg c3]
/-- moves back, in the walk itself -/
theorem cc_home {j : Nat} {m : AMem} {l : Int} (hp : OkPa p) (hs : OkSt p s) (h22 : 0 ≤ s 22 ∧ s 22 ≤ 100) (hH : HalfC m p L) (hR : RepC m j p s) (h : ∀ m2 : AMem, FrS wSc j m m2 → RepC m2 j p (runF p L twoM 8 s) → MtX yX8_compare cX8_compare 6 none (d + 5) [vr 8 0, vr 2 0, vr 7 j, vi l] m2 (fun r m3 => r = none ∧ Q none m3)) : Y cX8_goOn 5 RX8 (d + 6) none 74 [some (vr 8 0), some (vr 2 0), some (vi l), some (vr 7 j), some (vi 0)] [] m Q := by
  have loop : ∀ (r : Nat) (i : Int) (s2 : StR) (mm : AMem), i + r = 8 → 0 ≤ i → OkSt p s2 → (0 ≤ s2 22 ∧ s2 22 ≤ 100 + i) → FrS wSc j m mm → RepC mm j p s2 → runF p L twoM r s2 = runF p L twoM 8 s → Y cX8_goOn 5 RX8 (d + 6) none 74 [some (vr 8 0), some (vr 2 0), some (vi l), some (vr 7 j), some (vi i)] [] mm Q := by
    intro r
    induction r with
    | zero =>
      intro i s2 mm hi h0 hs2 h2 hF hR2 hT
      have hT : s2 = runF p L twoM 8 s := hT
      subst hT
      exact sg_X8_goOn_74 _ _ _ _ _ ⟨fun _ => h mm hF hR2, fun c => by omega⟩
    | succ r ih =>
      intro i s2 mm hi h0 hs2 h2 hF hR2 hT
      have e13 : mm 7 j 13 = s2 26 := hR2.2.2.2.2.2.2.2.2.2
      refine sg_X8_goOn_74 _ _ _ _ _ ⟨fun c => by omega, fun _ => ⟨fun c => ?_, fun c => ?_⟩⟩
      · rw [e13] at c
        rw [runF_e c] at hT
        rw [hT] at hR2
        exact h mm hF hR2
      · rw [e13] at c
        rw [runF_s, if_pos c] at hT
        have h22' := secS_22 (s := s2) (L := L) (v := 2) hp
        refine cc_second hp hs2 (by omega) (HalfC_S hF hH) hR2 fun m3 hF3 hR3 => ⟨rfl, ?_⟩
        rw [w32i (z := i + 1) (by omega) (by omega)]
        exact ih (i + 1) _ m3 (by omega) (by omega) (okS_sec hp hs2) (by omega) (FrS_trans hF hF3) hR3 hT
  exact loop 8 0 s m (by decide) (by decide) hs (by omega) (FrS_refl _ _ _) hR rfl
theorem cc_compare {m : AMem} {j : Nat} {who : Int} {l : Nat} {b : BsT} (hp : OkPa p) (hs : OkSt p s) (hH : HalfC m p L) (h11 : m 2 0 4 = p 11) (hR : RepC m j p s) (h6 : m 8 0 6 = who) (hB : bsC m b) (hb : who ≠ -1 → 0 ≤ b.1) (hl : l < 5) (hw : who = -1 ∨ (0 ≤ who ∧ who < 7)) (h : ∀ m2, FrX l m m2 → bsC m2 (if b.1 < wV who p s then (wV who p s, fun i => if i ≤ l then m 901 0 i else 0) else b) → Q none m2) : MtX yX8_compare cX8_compare 6 none (d + 4) [vr 8 0, vr 2 0, vr 7 j, vi l] m Q := by
  have hn := hp.1
  have e13 : m 7 j 13 = s 26 := hR.2.2.2.2.2.2.2.2.2
  have e10 : m 7 j 10 = s 24 := hR.2.2.2.2.2.2.1
  have loop : ∀ (r : Nat) (x i : Int) (mm : AMem), i + r = 5 → 0 ≤ i → FrX l m mm → mm 8 0 3 = x → (∀ q : Int, 0 ≤ q → q < 5 → mm 901 0 q = m 901 0 q) → (∀ q : Int, 0 ≤ q → q < i → mm 902 0 q = if q ≤ l then m 901 0 q else 0) → x = wV who p s → b.1 < x → Y cX8_compare 6 RX8 (d + 4) none 71 [some (vr 8 0), some (vr 2 0), some (vr 7 j), some (vi l), some (vi x), some (vi i)] [] mm (fun r mem2 => rk none r ∧ Q r mem2) := by
    intro r
    induction r with
    | zero =>
      intro x i mm hi h0 hF h3 hA hD hx hbx
      refine sg_X8_compare_71 _ _ _ _ _ _ ⟨fun _ => ⟨trivial, h mm hF ?_⟩, fun c => by omega⟩
      subst hx
      rw [if_pos hbx]
      exact ⟨h3, fun q q0 q1 => hD q q0 (by omega)⟩
    | succ r ih =>
      intro x i mm hi h0 hF h3 hA hD hx hbx
      refine sg_X8_compare_71 _ _ _ _ _ _ ⟨fun c => by omega, fun _ => ?_⟩
      rw [w32i (z := i + 1) (by omega) (by omega)]
      refine ⟨fun c => ⟨by omega, ih x (i + 1) _ (by omega) (by omega) (FrX_u hF (Or.inr (Or.inl rfl))) (by rw [up_k (by decide)]; exact h3) (fun q q0 q1 => by rw [up_k (by decide)]; exact hA q q0 q1) (fun q q0 q1 => ?_) hx hbx⟩, fun c => ⟨by omega, by omega, ih x (i + 1) _ (by omega) (by omega) (FrX_u hF (Or.inr (Or.inl rfl))) (by rw [up_k (by decide)]; exact h3) (fun q q0 q1 => by rw [up_k (by decide)]; exact hA q q0 q1) (fun q q0 q1 => ?_) hx hbx⟩⟩
      · rw [up_eq]
        by_cases g : q = i
        · rw [if_pos g, if_neg (by omega)]
        · rw [if_neg g]; exact hD q q0 (by omega)
      · rw [up_eq]
        by_cases g : q = i
        · rw [if_pos g, if_pos (by omega), g]; exact hA i h0 (by omega)
        · rw [if_neg g]; exact hD q q0 (by omega)
  have go : ∀ x, x = wV who p s → b.1 < x → Y cX8_compare 6 RX8 (d + 4) none 71 [some (vr 8 0), some (vr 2 0), some (vr 7 j), some (vi l), some (vi x), some (vi 0)] [] (upM m 8 0 3 x) (fun r mem2 => rk none r ∧ Q r mem2) := fun x hx hbx =>
    loop 5 x 0 _ (by decide) (by decide) (FrX_u (FrX_refl _ _) (Or.inr (Or.inr ⟨rfl, rfl⟩))) up_s (fun q _ _ => up_k (by decide)) (fun q q0 q1 => by omega) hx hbx
  have stay : ¬ b.1 < wV who p s → Q none m := fun c => h m (FrX_refl _ _) (by rw [if_neg c]; exact hB)
  refine Y_met rfl 2 rfl (sg_X8_compare_0 _ _ _ _ ?_)
  rw [h6, e13, e10, hB.1]
  refine ⟨fun c => ?_, fun c => ?_⟩
  · have b0 := hb c
    have wv : wV who p s = if s 26 = 1 ∧ tbt (s 24) who = 1 then 1 else 0 := if_neg c
    refine ⟨fun c2 => ⟨fun _ => ⟨trivial, stay ?_⟩, fun c3 => by omega⟩, fun c2 => ⟨fun c4 => ⟨fun _ => ⟨trivial, stay ?_⟩, fun c3 => by omega⟩, fun c4 => ⟨fun c3 => ⟨trivial, stay ?_⟩, fun c3 => go 1 ?_ (by omega)⟩⟩⟩
    · rw [wv, if_neg (fun q => c2 q.1)]; omega
    · rw [wv, if_neg (fun q => c4 q.2)]; omega
    · rw [wv, if_pos ⟨c2, c4⟩]; omega
    · rw [wv, if_pos ⟨c2, c4⟩]
  · have wv : wV who p s = ptS s - thS p s := if_pos c
    have hq := pop_rg hs.2.2.2.1.1 hs.2.2.2.1.2
    have rg : -10 ≤ ptS s - thS p s ∧ ptS s - thS p s ≤ 10 := by
      unfold ptS thS pcS
      (repeat' split) <;> omega
    refine cc_pts hR hs ⟨_, rfl, cc_ths hp hH h11 hR ⟨_, rfl, ?_⟩⟩
    rw [hB.1, w32i (z := ptS s - thS p s) (by omega) (by omega)]
    exact ⟨fun c2 => ⟨trivial, stay (by omega)⟩, fun c2 => go _ wv.symm (by omega)⟩
end
