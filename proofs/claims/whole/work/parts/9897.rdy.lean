/-! the reference reads lines and a whole text -/
def FrY (m m2 : AMem) : Prop := ∀ k j i, ¬ (k = 12 ∧ (i = 15 ∨ i = 16 ∨ i = 17 ∨ i = 18)) → ¬ ((k = 1319 ∨ k = 1320) ∧ 130 ≤ i) → ¬ (k = 1321 ∧ i = 1) → ¬ ((k = 1322 ∨ k = 1323) ∧ 61 ≤ i) → m2 k j i = m k j i
def enB (m : AMem) : Int → Int → LnL → Prop
  | _, _, [] => True
  | y, x, (t, b) :: r => m 1322 0 (61 + y) = x + t.length ∧ m 1323 0 (61 + y) = x + t.length + b.length ∧ enM (m 1319 0) (m 1320 0) (130 + x) (t ++ b) ∧ enB m (y + 1) (x + t.length + b.length) r
theorem s16v {t : Int} (h1 : 0 ≤ t) (h2 : t ≤ 255) : s16 t = t := by
  have g : ∀ k : Fin 256, s16 ((k.val : Nat) : Int) = ((k.val : Nat) : Int) := by decide +kernel
  have q := g ⟨t.toNat, by omega⟩
  rwa [show (((⟨t.toNat, by omega⟩ : Fin 256).val : Nat) : Int) = t from Int.toNat_of_nonneg h1] at q
theorem lenL_app : ∀ {a b : LnL}, lenL (a ++ b) = lenL a + lenL b := by
  intro a
  induction a with
  | nil => intro b; simp [lenL]
  | cons q r ih =>
    intro b
    obtain ⟨t, c⟩ := q
    show t.length + c.length + lenL (r ++ b) = t.length + c.length + lenL r + lenL b
    rw [ih]; omega
theorem enB_cg {m m2 : AMem} : ∀ {ls : LnL} {y x : Int}, (∀ i : Int, 61 + y ≤ i → i < 61 + y + ls.length → m2 1322 0 i = m 1322 0 i ∧ m2 1323 0 i = m 1323 0 i) → (∀ i : Int, 130 + x ≤ i → i < 130 + x + lenL ls → m2 1319 0 i = m 1319 0 i ∧ m2 1320 0 i = m 1320 0 i) → enB m y x ls → enB m2 y x ls := by
  intro ls
  induction ls with
  | nil => intro _ _ _ _ _; trivial
  | cons q r ih =>
    intro y x h1 h2 h
    obtain ⟨t, c⟩ := q
    obtain ⟨g1, g2, g3, g4⟩ := h
    have el : ((((t, c) :: r).length : Nat) : Int) = r.length + 1 := by simp
    have el2 : ((lenL ((t, c) :: r) : Nat) : Int) = t.length + c.length + lenL r := by simp [lenL]
    have el3 : (((t ++ c).length : Nat) : Int) = t.length + c.length := by simp
    rw [el] at h1
    rw [el2] at h2
    have q := h1 (61 + y) (by omega) (by omega)
    refine ⟨by rw [q.1]; exact g1, by rw [q.2]; exact g2, enM_cg (fun i c1 c2 => h2 i c1 (by omega)) g3, ih (fun i c1 c2 => h1 i (by omega) (by omega)) (fun i c1 c2 => h2 i (by omega) (by omega)) g4⟩
theorem enB_app {m : AMem} : ∀ {a b : LnL} {y x : Int}, enB m y x a → enB m (y + a.length) (x + lenL a) b → enB m y x (a ++ b) := by
  intro a
  induction a with
  | nil => intro b y x _ h; simpa [lenL] using h
  | cons q r ih =>
    intro b y x h h2
    obtain ⟨t, c⟩ := q
    obtain ⟨g1, g2, g3, g4⟩ := h
    have el : ((((t, c) :: r).length : Nat) : Int) = r.length + 1 := by simp
    have el2 : ((lenL ((t, c) :: r) : Nat) : Int) = t.length + c.length + lenL r := by simp [lenL]
    refine ⟨g1, g2, g3, ih g4 ?_⟩
    rw [show y + 1 + (r.length : Int) = y + (((t, c) :: r).length : Nat) by rw [el]; omega, show x + (t.length : Int) + c.length + lenL r = x + (lenL ((t, c) :: r) : Nat) by rw [el2]; omega]
    exact h2
def LnM (m m2 : AMem) (p2 : Int) (q : OpL × OpL) : Prop := (m2 12 0 15 = p2 ∧ m2 12 0 16 = -1 ∧ m2 12 0 17 = m 12 0 17 ∧ m2 12 0 18 = m 12 0 18 + q.1.length + q.2.length ∧ m2 1321 0 1 = m 1321 0 1 + 1) ∧ enB m2 (m 1321 0 1) (m 12 0 18) [q] ∧ (∀ i : Int, i < 130 + m 12 0 18 → m2 1319 0 i = m 1319 0 i ∧ m2 1320 0 i = m 1320 0 i) ∧ (∀ i : Int, i < 61 + m 1321 0 1 → m2 1322 0 i = m 1322 0 i ∧ m2 1323 0 i = m 1323 0 i) ∧ FrY m m2
section
variable {m m0 m1 m2 m3 : AMem} {T : Int → Int} {n p o p1 p2 w : Int} {a b : OpL} {ls : LnL} {f d : Nat} {Q : Option AV → AMem → Prop}
theorem FrY_refl : FrY m m := fun _ _ _ _ _ _ _ => rfl
theorem FrY_trans (h : FrY m m1) (h2 : FrY m1 m2) : FrY m m2 := fun k j i c c2 c3 c4 => (h2 k j i c c2 c3 c4).trans (h k j i c c2 c3 c4)
theorem FrY_E (h : FrE m m2) : FrY m m2 := fun k j i c c2 _ _ => h k j i c c2
theorem FrY_up {k j : Nat} {i v : Int} (h : FrY m m1) (hc : (k = 12 ∧ (i = 15 ∨ i = 16 ∨ i = 17 ∨ i = 18)) ∨ ((k = 1319 ∨ k = 1320) ∧ 130 ≤ i) ∨ (k = 1321 ∧ i = 1) ∨ ((k = 1322 ∨ k = 1323) ∧ 61 ≤ i)) : FrY m (upM m1 k j i v) := by
  intro k2 j2 i2 c c2 c3 c4
  unfold upM
  split
  · split
    · split
      · rename_i e1 e2 e3
        subst e1 e2 e3
        exact absurd hc (by rintro (q | q | q | q); exact c q; exact c2 q; exact c3 q; exact c4 q)
      · exact h _ _ _ c c2 c3 c4
    · exact h _ _ _ c c2 c3 c4
  · exact h _ _ _ c c2 c3 c4
theorem PrM_k {k j : Nat} {i v : Int} (h : PrM T n m p o) (hk : k ≠ 12) (hk2 : k ≠ 1313) : PrM T n (upM m k j i v) p o := by
  obtain ⟨⟨b1, b2, b3⟩, b5, b6, b7, b8, b9, b10, b11⟩ := h
  refine ⟨⟨?_, b2, fun i c c2 => ?_⟩, ?_, ?_, ?_, ?_, ?_, b10, b11⟩
  · rw [up_k (Ne.symm hk)]; exact b1
  · rw [up_k (Ne.symm hk2)]; exact b3 i c c2
  · rw [up_k (Ne.symm hk)]; exact b5
  · rw [up_k (Ne.symm hk)]; exact b6
  · rw [up_k (Ne.symm hk)]; exact b7
  · rw [up_k (Ne.symm hk)]; exact b8
  · rw [up_k (Ne.symm hk)]; exact b9
theorem cm_oneLine {res : Option (OpL × OpL)} (h : RdN T n f p p2 res) (hP : PrM T n m p 0) (hy : 0 ≤ m 1321 0 1 ∧ m 1321 0 1 ≤ 60) (hd : 70 ≤ d) (h1 : res = none → ∀ m2, m2 12 0 16 = p2 → 0 ≤ p2 → FrY m m2 → Q none m2) (h2 : ∀ q, res = some q → ∀ m2, LnM m m2 p2 q → Q none m2) : MtX yX12_oneLine cX12_oneLine 2 none d [vr 12 0] m Q := by
  obtain ⟨d, rfl, hd⟩ := dup1 hd
  obtain ⟨hA, _, _⟩ := cm_rd (T := T) (n := n) f
  have hpp := hP.2.2.2.2
  have hn := hP.1.2.1
  have h66 : ndR 0 0 ≤ d + 1 := by unfold ndR; omega
  have ey : w32 (61 + m 1321 0 1) = 61 + m 1321 0 1 := w32i (by omega) (by omega)
  have es : s16 (s16 (m 12 0 18)) = m 12 0 18 := by rw [s16v (t := m 12 0 18) (by omega) (by omega), s16v (t := m 12 0 18) (by omega) (by omega)]
  refine Y_met rfl 1 rfl (sg_X12_oneLine_0 _ _ ⟨by decide, by rw [ey]; omega, ?_⟩)
  rw [ey, es]
  generalize hm' : upM m 1322 0 (61 + m 1321 0 1) (m 12 0 18) = m'
  have hP' : PrM T n m' p 0 := by subst hm'; exact PrM_k hP (by decide) (by decide)
  have hF' : FrY m m' := by subst hm'; exact FrY_up FrY_refl (Or.inr (Or.inr (Or.inr ⟨Or.inl rfl, by omega⟩)))
  have e18 : m' 12 0 18 = m 12 0 18 := by subst hm'; exact up_k (by decide)
  have e17 : m' 12 0 17 = m 12 0 17 := by subst hm'; exact up_k (by decide)
  have e21 : m' 1321 0 1 = m 1321 0 1 := by subst hm'; exact up_k (by decide)
  have e19 : ∀ i, m' 1319 0 i = m 1319 0 i ∧ m' 1320 0 i = m 1320 0 i := fun i => by subst hm'; exact ⟨up_k (by decide), up_k (by decide)⟩
  have e22 : m' 1322 0 (61 + m 1321 0 1) = m 12 0 18 := by subst hm'; exact up_s
  have e22n : ∀ i : Int, i < 61 + m 1321 0 1 → m' 1322 0 i = m 1322 0 i ∧ m' 1323 0 i = m 1323 0 i := fun i c => by subst hm'; exact ⟨up_i (by omega), up_k (by decide)⟩
  have fin : ∀ (m3 : AMem), FrY m m3 → m3 1321 0 1 = m 1321 0 1 → (rk none none ∧ Q none (upM (upM m3 1323 0 (61 + m 1321 0 1) (s16 (s16 (m3 12 0 18)))) 1321 0 1 (m 1321 0 1 + 1))) → Y cX12_oneLine 2 RX12 (d + 1) none 66 [some (vr 12 0), some (vi (61 + m 1321 0 1))] [] m3 (fun r m2 => rk none r ∧ Q r m2) := by
    intro m3 hF h3 hq
    refine sg_X12_oneLine_66 _ _ _ ⟨by omega, by decide, by decide, ?_⟩
    rw [h3, w32i (by omega) (by omega)]
    exact hq
  have bad : ∀ (m3 : AMem), res = none → m3 12 0 16 = p2 → 0 ≤ p2 → FrY m m3 → m3 1321 0 1 = m 1321 0 1 → Y cX12_oneLine 2 RX12 (d + 1) none 66 [some (vr 12 0), some (vi (61 + m 1321 0 1))] [] m3 (fun r m2 => rk none r ∧ Q r m2) := by
    intro m3 hr h6 h0 hF h3
    refine fin m3 hF h3 ⟨trivial, h1 hr _ ?_ h0 (FrY_up (FrY_up hF (Or.inr (Or.inr (Or.inr ⟨Or.inr rfl, by omega⟩)))) (Or.inr (Or.inr (Or.inl ⟨rfl, rfl⟩))))⟩
    rw [up_k (by decide), up_k (by decide)]
    exact h6
  rcases h with ⟨e, g⟩ | ⟨p1, a, g, g2⟩
  · subst e
    refine hA 0 _ _ _ _ (by omega) g _ _ _ hP' (by omega) (by omega) h66 fun m1 h1' => ⟨rfl, ?_⟩
    have hB : BdM m' m1 p2 (m' 12 0 18 + (p2 - p) + 1) := h1'
    refine ⟨fun _ => bad m1 rfl hB.1 hB.2.1 (FrY_trans hF' (FrY_E hB.2.2.2.2)) (by rw [FrE_n hB.2.2.2.2 (by decide) (by decide) (by decide)]; exact e21), fun c => absurd (by rw [hB.1]; exact hB.2.1) c⟩
  · have q1 := Rd_f _ _ _ _ _ _ (by omega) g hpp.2.2.2
    have q2 := q1.2.2 a rfl
    refine hA 0 _ _ _ _ (by omega) g _ _ _ hP' (by omega) (by omega) h66 fun m1 h1' => ⟨rfl, ?_⟩
    have hA1 : AfM m' m1 p1 a := h1'
    have hP1 := PrM_af hP' hA1 q2.1 q1.2.1
    have hb1 := PrM_pk hP1
    have hF1 := FrY_trans hF' (FrY_E hA1.2.2.2.2.2.2)
    have f21 : m1 1321 0 1 = m 1321 0 1 := by rw [FrE_n hA1.2.2.2.2.2.2 (by decide) (by decide) (by decide)]; exact e21
    have f22 : ∀ i, m1 1322 0 i = m' 1322 0 i ∧ m1 1323 0 i = m' 1323 0 i := fun i => ⟨FrE_n hA1.2.2.2.2.2.2 (by decide) (by decide) (by decide), FrE_n hA1.2.2.2.2.2.2 (by decide) (by decide) (by decide)⟩
    have z1 := hP1.2.2.2.2
    refine ⟨fun c => by have := hP1.2.2.1; omega, fun _ => cm_lk hP1 (by omega) ⟨_, rfl, fun c => ?_, fun c => ?_⟩⟩
    · have c : ¬ pkT T n p1 = 63 := fun z => c ((bq hb1.1 hb1.2 (by decide) (by decide)).mpr z)
      rcases g2 with ⟨_, e1, e2⟩ | ⟨c2, _⟩
      · subst e1 e2
        refine fin m1 hF1 f21 ⟨trivial, h2 _ rfl _ ?_⟩
        obtain ⟨a1, a2, a3, a4, a5, a6, a7⟩ := hA1
        rw [s16v (t := m1 12 0 18) (by omega) (by omega), s16v (t := m1 12 0 18) (by omega) (by omega)]
        have k19 : (upM (upM m1 1323 0 (61 + m 1321 0 1) (m1 12 0 18)) 1321 0 1 (m 1321 0 1 + 1)) 1319 0 = m1 1319 0 := by rw [up_f (by decide), up_f (by decide)]
        have k20 : (upM (upM m1 1323 0 (61 + m 1321 0 1) (m1 12 0 18)) 1321 0 1 (m 1321 0 1 + 1)) 1320 0 = m1 1320 0 := by rw [up_f (by decide), up_f (by decide)]
        have k22 : (upM (upM m1 1323 0 (61 + m 1321 0 1) (m1 12 0 18)) 1321 0 1 (m 1321 0 1 + 1)) 1322 0 = m1 1322 0 := by rw [up_f (by decide), up_f (by decide)]
        refine ⟨⟨?_, ?_, ?_, ?_, up_s⟩, ⟨?_, ?_, ?_, trivial⟩, ?_, ?_, FrY_up (FrY_up hF1 (Or.inr (Or.inr (Or.inr ⟨Or.inr rfl, by omega⟩)))) (Or.inr (Or.inr (Or.inl ⟨rfl, rfl⟩)))⟩
        · rw [up_k (by decide), up_k (by decide)]; exact a1
        · rw [up_k (by decide), up_k (by decide)]; exact a2
        · rw [up_k (by decide), up_k (by decide)]; exact a3.trans e17
        · rw [up_k (by decide), up_k (by decide), a4, e18]; simp
        · rw [k22, (f22 _).1, e22]; simp
        · rw [up_k (by decide), up_s, a4, e18]; simp
        · rw [k19, k20, ← e18]; exact a5
        · intro i c3
          rw [k19, k20]
          have := a6 i (by omega)
          exact ⟨this.1.trans (e19 i).1, this.2.trans (e19 i).2⟩
        · intro i c3
          rw [k22, up_k (by decide), up_i (by omega)]
          exact ⟨(f22 i).1.trans (e22n i c3).1, (f22 i).2.trans (e22n i c3).2⟩
      · exact absurd c2 c
    · have c := (bq hb1.1 hb1.2 (by decide) (by decide)).mp c
      have hlt := pkT_lt (T := T) (n := n) (p := p1) (by omega)
      rcases g2 with ⟨c2, _⟩ | ⟨_, b, g2, e⟩
      · exact absurd c c2
      · refine ⟨by omega, ?_⟩
        rw [hP1.2.1, w32i (z := p1 + 1) (by omega) (by omega), s16v (t := m1 12 0 18) (by omega) (by omega), s16v (t := m1 12 0 18) (by omega) (by omega)]
        generalize hm5 : upM (upM m1 12 0 15 (p1 + 1)) 1322 0 (61 + m 1321 0 1) (m1 12 0 18) = m5
        have hP5 : PrM T n m5 (p1 + 1) 0 := by subst hm5; exact PrM_k (PrM_mv hP1 (by omega) (by omega)) (by decide) (by decide)
        have hF5 : FrY m m5 := by subst hm5; exact FrY_up (FrY_up hF1 (Or.inl ⟨rfl, Or.inl rfl⟩)) (Or.inr (Or.inr (Or.inr ⟨Or.inl rfl, by omega⟩)))
        have g18 : m5 12 0 18 = m1 12 0 18 := by subst hm5; rw [up_k (by decide), up_i (by decide)]
        have g17 : m5 12 0 17 = m1 12 0 17 := by subst hm5; rw [up_k (by decide), up_i (by decide)]
        have g21 : m5 1321 0 1 = m 1321 0 1 := by subst hm5; rw [up_k (by decide), up_k (by decide)]; exact f21
        have g19 : ∀ i, m5 1319 0 i = m1 1319 0 i ∧ m5 1320 0 i = m1 1320 0 i := fun i => by subst hm5; exact ⟨by rw [up_k (by decide), up_k (by decide)], by rw [up_k (by decide), up_k (by decide)]⟩
        have g22 : m5 1322 0 (61 + m 1321 0 1) = m1 12 0 18 := by subst hm5; exact up_s
        have g22n : ∀ i : Int, i < 61 + m 1321 0 1 → m5 1322 0 i = m1 1322 0 i ∧ m5 1323 0 i = m1 1323 0 i := fun i c => by subst hm5; exact ⟨by rw [up_i (by omega), up_k (by decide)], by rw [up_k (by decide), up_k (by decide)]⟩
        have q3 := Rd_f _ _ _ _ _ _ (by omega) g2 (by omega)
        refine hA 0 _ _ _ _ (by omega) g2 _ _ _ hP5 (by omega) (by omega) h66 fun m8 h8 => ⟨rfl, ?_⟩
        cases b with
        | none =>
          have hB : BdM m5 m8 p2 (m5 12 0 18 + (p2 - (p1 + 1)) + 1) := h8
          exact bad m8 e hB.1 hB.2.1 (FrY_trans hF5 (FrY_E hB.2.2.2.2)) (by rw [FrE_n hB.2.2.2.2 (by decide) (by decide) (by decide)]; exact g21)
        | some b =>
          have hA8 : AfM m5 m8 p2 b := h8
          have q4 := q3.2.2 b rfl
          have hP8 := PrM_af hP5 hA8 q4.1 q3.2.1
          have z8 := hP8.2.2.2.2
          have hF8 := FrY_trans hF5 (FrY_E hA8.2.2.2.2.2.2)
          refine fin m8 hF8 (by rw [FrE_n hA8.2.2.2.2.2.2 (by decide) (by decide) (by decide)]; exact g21) ⟨trivial, h2 _ e _ ?_⟩
          have h22 : ∀ i, m8 1322 0 i = m5 1322 0 i ∧ m8 1323 0 i = m5 1323 0 i := fun i => ⟨FrE_n hA8.2.2.2.2.2.2 (by decide) (by decide) (by decide), FrE_n hA8.2.2.2.2.2.2 (by decide) (by decide) (by decide)⟩
          obtain ⟨a1, a2, a3, a4, a5, a6, a7⟩ := hA1
          obtain ⟨b1, b2, b3, b4, b5, b6, b7⟩ := hA8
          rw [s16v (t := m8 12 0 18) (by omega) (by omega), s16v (t := m8 12 0 18) (by omega) (by omega)]
          have k19 : (upM (upM m8 1323 0 (61 + m 1321 0 1) (m8 12 0 18)) 1321 0 1 (m 1321 0 1 + 1)) 1319 0 = m8 1319 0 := by rw [up_f (by decide), up_f (by decide)]
          have k20 : (upM (upM m8 1323 0 (61 + m 1321 0 1) (m8 12 0 18)) 1321 0 1 (m 1321 0 1 + 1)) 1320 0 = m8 1320 0 := by rw [up_f (by decide), up_f (by decide)]
          have k22 : (upM (upM m8 1323 0 (61 + m 1321 0 1) (m8 12 0 18)) 1321 0 1 (m 1321 0 1 + 1)) 1322 0 = m8 1322 0 := by rw [up_f (by decide), up_f (by decide)]
          refine ⟨⟨?_, ?_, ?_, ?_, up_s⟩, ⟨?_, ?_, ?_, trivial⟩, ?_, ?_, FrY_up (FrY_up hF8 (Or.inr (Or.inr (Or.inr ⟨Or.inr rfl, by omega⟩)))) (Or.inr (Or.inr (Or.inl ⟨rfl, rfl⟩)))⟩
          · rw [up_k (by decide), up_k (by decide)]; exact b1
          · rw [up_k (by decide), up_k (by decide)]; exact b2
          · rw [up_k (by decide), up_k (by decide)]; exact b3.trans (g17.trans (a3.trans e17))
          · rw [up_k (by decide), up_k (by decide), b4, g18, a4, e18]
          · rw [k22, (h22 _).1, g22, a4, e18]
          · rw [up_k (by decide), up_s, b4, g18, a4, e18]
          · rw [k19, k20, ← e18]
            refine enM_mk (enM_cg (fun i c3 c4 => ?_) a5) ?_
            · have := b6 i (by omega)
              exact ⟨this.1.trans (g19 i).1, this.2.trans (g19 i).2⟩
            · rw [show 130 + m' 12 0 18 + (a.length : Int) = 130 + m5 12 0 18 by omega]
              exact b5
          · intro i c3
            rw [k19, k20]
            have r1 := b6 i (by omega)
            have r2 := a6 i (by omega)
            exact ⟨r1.1.trans ((g19 i).1.trans (r2.1.trans (e19 i).1)), r1.2.trans ((g19 i).2.trans (r2.2.trans (e19 i).2))⟩
          · intro i c3
            rw [k22, up_k (by decide), up_i (by omega)]
            exact ⟨(h22 i).1.trans ((g22n i c3).1.trans ((f22 i).1.trans (e22n i c3).1)), (h22 i).2.trans ((g22n i c3).2.trans ((f22 i).2.trans (e22n i c3).2))⟩
end
