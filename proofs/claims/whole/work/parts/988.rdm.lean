/-! the reference reads a text: what it leaves -/
def FrE (m m2 : AMem) : Prop := ∀ k j i, ¬ (k = 12 ∧ (i = 15 ∨ i = 16 ∨ i = 17 ∨ i = 18)) → ¬ ((k = 1319 ∨ k = 1320) ∧ 130 ≤ i) → m2 k j i = m k j i
def lkM (m : AMem) : Int := if m 12 0 15 < m 12 0 14 then m 1313 0 (m 12 0 15) else -1
def AfM (m m2 : AMem) (p2 : Int) (a : OpL) : Prop := m2 12 0 15 = p2 ∧ m2 12 0 16 = -1 ∧ m2 12 0 17 = m 12 0 17 ∧ m2 12 0 18 = m 12 0 18 + a.length ∧ enM (m2 1319 0) (m2 1320 0) (130 + m 12 0 18) a ∧ (∀ i : Int, i < 130 + m 12 0 18 → m2 1319 0 i = m 1319 0 i ∧ m2 1320 0 i = m 1320 0 i) ∧ FrE m m2
def BdM (m m2 : AMem) (p2 w : Int) : Prop := m2 12 0 16 = p2 ∧ 0 ≤ p2 ∧ 0 ≤ m2 12 0 15 ∧ (0 ≤ m2 12 0 18 ∧ m2 12 0 18 ≤ w) ∧ FrE m m2
def PstM (m m2 : AMem) (p p2 : Int) (res : Option OpL) : Prop := match res with
  | some a => AfM m m2 p2 a
  | none => BdM m m2 p2 (m 12 0 18 + (p2 - p) + 1)
def PrM (T : Int → Int) (n : Int) (m : AMem) (p o : Int) : Prop := (m 12 0 14 = n ∧ n ≤ 120 ∧ (∀ i : Int, 0 ≤ i → i < n → 0 ≤ T i ∧ T i ≤ 255 ∧ m 1313 0 i = b8 (T i))) ∧ m 12 0 15 = p ∧ m 12 0 16 = -1 ∧ m 12 0 17 = o ∧ 0 ≤ m 12 0 18 ∧ m 12 0 18 ≤ p ∧ 0 ≤ p ∧ p ≤ n
theorem bq {t c : Int} (h1 : -1 ≤ t) (h2 : t ≤ 255) (hc : 0 ≤ c) (hc2 : c < 128) : b8 t = c ↔ t = c := by
  by_cases h : t = -1
  · subst h
    have e : b8 (-1) = -1 := by decide +kernel
    rw [e]
  · rw [b8v (by omega) h2]
    split <;> omega
theorem bd {t : Int} (h1 : -1 ≤ t) (h2 : t ≤ 255) : dgt (b8 t) ↔ dgt t := by
  unfold dgt
  by_cases h : t = -1
  · subst h
    have e : b8 (-1) = -1 := by decide +kernel
    rw [e]
  · rw [b8v (by omega) h2]
    split <;> omega
theorem bn {t : Int} (h1 : -1 ≤ t) (h2 : t ≤ 255) : nmF (b8 t) = nmF t := by
  unfold nmF
  simp only [bq h1 h2 (show (0 : Int) ≤ 100 by decide) (by decide), bq h1 h2 (show (0 : Int) ≤ 114 by decide) (by decide), bq h1 h2 (show (0 : Int) ≤ 98 by decide) (by decide), bq h1 h2 (show (0 : Int) ≤ 115 by decide) (by decide), bq h1 h2 (show (0 : Int) ≤ 110 by decide) (by decide), bq h1 h2 (show (0 : Int) ≤ 99 by decide) (by decide)]
theorem enM_mk {f g : Int → Int} : ∀ {a b : OpL} {x : Int}, enM f g x a → enM f g (x + a.length) b → enM f g x (a ++ b) := by
  intro a
  induction a with
  | nil => intro b x _ h; simpa using h
  | cons o os ih =>
    intro b x h h2
    obtain ⟨h1, h3, h4⟩ := h
    refine ⟨h1, h3, ih h4 ?_⟩
    have e : x + ((o :: os).length : Int) = x + 1 + os.length := by simp; omega
    rw [← e]; exact h2
theorem enM_cg {f g f2 g2 : Int → Int} : ∀ {a : OpL} {x : Int}, (∀ i : Int, x ≤ i → i < x + a.length → f2 i = f i ∧ g2 i = g i) → enM f g x a → enM f2 g2 x a := by
  intro a
  induction a with
  | nil => intro x _ _; trivial
  | cons o os ih =>
    intro x h h2
    have el : (((o :: os).length : Nat) : Int) = os.length + 1 := by simp
    rw [el] at h
    obtain ⟨q1, q2⟩ := h x (by omega) (by omega)
    exact ⟨q1.trans h2.1, fun c => q2.trans (h2.2.1 c), ih (fun i c c2 => h i (by omega) (by omega)) h2.2.2⟩
section
variable {m m1 m2 m3 : AMem} {T : Int → Int} {n p o p1 p2 w w2 : Int} {a b : OpL} {d : Nat} {Q : Option AV → AMem → Prop}
theorem FrE_refl : FrE m m := fun _ _ _ _ _ => rfl
theorem FrE_trans (h : FrE m m1) (h2 : FrE m1 m2) : FrE m m2 := fun k j i c c2 => (h2 k j i c c2).trans (h k j i c c2)
theorem FrE_up {k j : Nat} {i v : Int} (h : FrE m m1) (hc : (k = 12 ∧ (i = 15 ∨ i = 16 ∨ i = 17 ∨ i = 18)) ∨ ((k = 1319 ∨ k = 1320) ∧ 130 ≤ i)) : FrE m (upM m1 k j i v) := by
  intro k2 j2 i2 c c2
  unfold upM
  split
  · split
    · split
      · rename_i e1 e2 e3
        subst e1 e2 e3
        exact absurd hc (by rintro (q | q); exact c q; exact c2 q)
      · exact h _ _ _ c c2
    · exact h _ _ _ c c2
  · exact h _ _ _ c c2
theorem FrE_u5 {v : Int} (h : FrE m m1) : FrE m (upM m1 12 0 15 v) := FrE_up h (Or.inl ⟨rfl, Or.inl rfl⟩)
theorem FrE_u6 {v : Int} (h : FrE m m1) : FrE m (upM m1 12 0 16 v) := FrE_up h (Or.inl ⟨rfl, Or.inr (Or.inl rfl)⟩)
theorem FrE_u7 {v : Int} (h : FrE m m1) : FrE m (upM m1 12 0 17 v) := FrE_up h (Or.inl ⟨rfl, Or.inr (Or.inr (Or.inl rfl))⟩)
theorem FrE_n (h : FrE m m2) {k j : Nat} {i : Int} (h4 : k ≠ 12) (h3 : k ≠ 1319) (h40 : k ≠ 1320) : m2 k j i = m k j i := h k j i (fun q => h4 q.1) (fun q => by
  rcases q.1 with q | q
  · exact h3 q
  · exact h40 q)
theorem FrE_14 (h : FrE m m2) : m2 12 0 14 = m 12 0 14 := h 12 0 14 (by omega) (by omega)
theorem PrM_pk (h : PrM T n m p o) : -1 ≤ pkT T n p ∧ pkT T n p ≤ 255 := by
  obtain ⟨⟨h1, h2, h3⟩, h5, h6, h7, h8, h9, h10, h11⟩ := h
  unfold pkT
  split
  · rename_i c
    have := h3 p h10 c
    omega
  · omega
theorem PrM_lk (h : PrM T n m p o) : lkM m = b8 (pkT T n p) := by
  obtain ⟨⟨h1, h2, h3⟩, h5, h6, h7, h8, h9, h10, h11⟩ := h
  unfold lkM pkT
  rw [h5, h1]
  split
  · rename_i c
    exact (h3 p h10 c).2.2
  · decide +kernel
theorem PrM_af (h : PrM T n m p o) (hA : AfM m m2 p1 a) (h1 : (a.length : Int) ≤ p1 - p) (h2 : p1 ≤ n) : PrM T n m2 p1 o := by
  obtain ⟨⟨b1, b2, b3⟩, b5, b6, b7, b8, b9, b10, b11⟩ := h
  obtain ⟨a1, a2, a3, a4, a5, a6, a7⟩ := hA
  refine ⟨⟨by rw [FrE_14 a7]; exact b1, b2, fun i c c2 => ?_⟩, a1, a2, by rw [a3]; exact b7, by omega, by omega, by omega, h2⟩
  rw [FrE_n a7 (by decide) (by decide) (by decide)]
  exact b3 i c c2
theorem PrM_mv {v : Int} (h : PrM T n m p o) (hv : p ≤ v) (hv2 : v ≤ n) : PrM T n (upM m 12 0 15 v) v o := by
  obtain ⟨⟨b1, b2, b3⟩, b5, b6, b7, b8, b9, b10, b11⟩ := h
  refine ⟨⟨?_, b2, fun i c c2 => ?_⟩, up_s, ?_, ?_, ?_, ?_, by omega, hv2⟩
  · rw [up_i (by decide)]; exact b1
  · rw [up_k (by decide)]; exact b3 i c c2
  · rw [up_i (by decide)]; exact b6
  · rw [up_i (by decide)]; exact b7
  · rw [up_i (by decide)]; exact b8
  · rw [up_i (by decide)]; omega
theorem PrM_op {v : Int} (h : PrM T n m p o) : PrM T n (upM m 12 0 17 v) p v := by
  obtain ⟨⟨b1, b2, b3⟩, b5, b6, b7, b8, b9, b10, b11⟩ := h
  refine ⟨⟨?_, b2, fun i c c2 => ?_⟩, ?_, ?_, up_s, ?_, ?_, b10, b11⟩
  · rw [up_i (by decide)]; exact b1
  · rw [up_k (by decide)]; exact b3 i c c2
  · rw [up_i (by decide)]; exact b5
  · rw [up_i (by decide)]; exact b6
  · rw [up_i (by decide)]; exact b8
  · rw [up_i (by decide)]; exact b9
theorem AfM_refl (h : PrM T n m p o) : AfM m m p [] := by
  obtain ⟨_, b5, b6, b7, b8, b9, b10, b11⟩ := h
  exact ⟨b5, b6, rfl, by simp, trivial, fun i _ => ⟨rfl, rfl⟩, FrE_refl⟩
theorem AfM_tr (h : AfM m m1 p1 a) (h2 : AfM m1 m2 p2 b) : AfM m m2 p2 (a ++ b) := by
  obtain ⟨a1, a2, a3, a4, a5, a6, a7⟩ := h
  obtain ⟨b1, b2, b3, b4, b5, b6, b7⟩ := h2
  have hl := List.length_append (as := a) (bs := b)
  refine ⟨b1, b2, b3.trans a3, by omega, enM_mk (enM_cg (fun i c c2 => b6 i (by omega)) a5) ?_, fun i c => ?_, FrE_trans a7 b7⟩
  · rw [show 130 + m 12 0 18 + (a.length : Int) = 130 + m1 12 0 18 by omega]; exact b5
  · have q := b6 i (by omega)
    have q2 := a6 i c
    exact ⟨q.1.trans q2.1, q.2.trans q2.2⟩
theorem AfM_mv {v : Int} (h : AfM (upM m 12 0 15 v) m2 p2 b) : AfM m m2 p2 b := by
  obtain ⟨b1, b2, b3, b4, b5, b6, b7⟩ := h
  rw [up_i (by decide)] at b3 b4 b5
  refine ⟨b1, b2, b3, b4, b5, fun i c => ?_, FrE_trans (FrE_u5 FrE_refl) b7⟩
  have q := b6 i (by rw [up_i (by decide)]; exact c)
  rw [up_k (by decide), up_k (by decide)] at q
  exact q
theorem AfM_m2 {v : Int} (h : AfM m m2 p2 b) : AfM m (upM m2 12 0 15 v) v b := by
  obtain ⟨b1, b2, b3, b4, b5, b6, b7⟩ := h
  refine ⟨up_s, ?_, ?_, ?_, ?_, ?_, FrE_u5 b7⟩
  · rw [up_i (by decide)]; exact b2
  · rw [up_i (by decide)]; exact b3
  · rw [up_i (by decide)]; exact b4
  · rw [up_f (by decide), up_f (by decide)]; exact b5
  · rw [up_f (by decide), up_f (by decide)]; exact b6
/-- a bracket more, and away again -/
theorem AfM_br {v x : Int} (h : AfM (upM m 12 0 17 v) m2 p2 b) (hx : x = m 12 0 17) : AfM m (upM m2 12 0 17 x) p2 b := by
  obtain ⟨b1, b2, b3, b4, b5, b6, b7⟩ := h
  rw [up_i (by decide)] at b4 b5
  refine ⟨?_, ?_, ?_, ?_, ?_, ?_, FrE_u7 (FrE_trans (FrE_u7 FrE_refl) b7)⟩
  · rw [up_i (by decide)]; exact b1
  · rw [up_i (by decide)]; exact b2
  · rw [up_s]; exact hx
  · rw [up_i (by decide)]; exact b4
  · rw [up_f (by decide), up_f (by decide)]; exact b5
  · rw [up_f (by decide), up_f (by decide)]
    intro i c
    have q := b6 i (by rw [up_i (by decide)]; exact c)
    rw [up_k (by decide), up_k (by decide)] at q
    exact q
theorem BdM_pre (h : FrE m m1) (h2 : BdM m1 m2 p2 w) (hw : w ≤ w2) : BdM m m2 p2 w2 := by
  obtain ⟨b1, b2, b3, b4, b5⟩ := h2
  exact ⟨b1, b2, b3, ⟨b4.1, by omega⟩, FrE_trans h b5⟩
theorem BdM_7 {v : Int} (h : BdM m m2 p2 w) : BdM m (upM m2 12 0 17 v) p2 w := by
  obtain ⟨b1, b2, b3, b4, b5⟩ := h
  refine ⟨?_, b2, ?_, ?_, FrE_u7 b5⟩
  · rw [up_i (by decide)]; exact b1
  · rw [up_i (by decide)]; exact b3
  · rw [up_i (by decide)]; exact b4
theorem BdM_0 (h : PrM T n m p o) (hw : m 12 0 18 ≤ w) : BdM m (upM m 12 0 16 p) p w := by
  obtain ⟨_, b5, b6, b7, b8, b9, b10, b11⟩ := h
  refine ⟨up_s, b10, ?_, ?_, FrE_u6 FrE_refl⟩
  · rw [up_i (by decide)]; omega
  · rw [up_i (by decide)]; omega
theorem PstM_tr (h : AfM m m1 p1 a) (hl : (a.length : Int) ≤ p1 - p) {b : Option OpL} (h2 : PstM m1 m2 p1 p2 b) : PstM m m2 p p2 (Option.map (a ++ ·) b) := by
  cases b with
  | none => exact BdM_pre h.2.2.2.2.2.2 h2 (by rw [h.2.2.2.1]; omega)
  | some b => exact AfM_tr h h2
/-! the smallest -/
theorem cm_look (h0 : 0 ≤ m 12 0 15) (hn : m 12 0 14 ≤ 120) (hd : 1 ≤ d) (h : Q (some (vi (lkM m))) m) : MtX yX12_look cX12_look 1 (some .int) d [vr 12 0] m Q := by
  obtain ⟨e, rfl, _⟩ := dup1 hd
  have g : ∀ v, lkM m = v → Q (some (vi v)) m := fun v e => e ▸ h
  refine Y_met rfl 0 rfl (sg_X12_look_0 _ _ ⟨fun c => ⟨trivial, g _ (if_neg (by omega))⟩, fun c => ⟨⟨by omega, by omega⟩, trivial, g _ (if_pos (by omega))⟩⟩)
theorem cm_lk (hP : PrM T n m p o) (hd : 1 ≤ d) (h : Q (some (vi (b8 (pkT T n p)))) m) : MtX yX12_look cX12_look 1 (some .int) d [vr 12 0] m Q := by
  have e := PrM_lk hP
  obtain ⟨⟨h1, h2, h3⟩, h5, h6, h7, h8, h9, h10, h11⟩ := hP
  exact cm_look (by omega) (by omega) hd (by rw [e]; exact h)
theorem cm_wrong (hd : 1 ≤ d) (h1 : 0 ≤ m 12 0 16 → Q none m) (h2 : m 12 0 16 < 0 → Q none (upM m 12 0 16 (m 12 0 15))) : MtX yX12_wrong cX12_wrong 1 none d [vr 12 0] m Q := by
  obtain ⟨e, rfl, _⟩ := dup1 hd
  exact Y_met rfl 0 rfl (sg_X12_wrong_0 _ _ ⟨fun c => ⟨trivial, h1 c⟩, fun c => ⟨trivial, h2 (by omega)⟩⟩)
theorem cm_nameOf {x : Int} (hd : 1 ≤ d) (h : Q (some (vi (nmF x))) m) : MtX yX12_nameOf cX12_nameOf 1 (some .int) d [vi x] m Q := by
  obtain ⟨e, rfl, _⟩ := dup1 hd
  have g : ∀ v, nmF x = v → Q (some (vi v)) m := fun v e => e ▸ h
  refine Y_met rfl 0 rfl (sg_X12_nameOf_0 _ _ _ ⟨fun c => ⟨trivial, g _ ?_⟩, fun c => ⟨trivial, g _ ?_⟩, fun c => ⟨trivial, g _ ?_⟩, fun c => ⟨trivial, g _ ?_⟩, fun c => ⟨trivial, g _ ?_⟩, fun c => ⟨trivial, g _ ?_⟩, fun c => ⟨trivial, g _ ?_⟩, fun c => ⟨trivial, g _ ?_⟩, fun c => ⟨trivial, g _ ?_⟩, fun c => ⟨trivial, g _ ?_⟩, fun c => ⟨trivial, g _ ?_⟩, fun c => ⟨trivial, g _ ?_⟩, fun c => ⟨trivial, g _ ?_⟩, fun c => ⟨trivial, g _ ?_⟩, fun c => ⟨trivial, g _ ?_⟩, fun c => ⟨trivial, g _ ?_⟩, fun c => ⟨trivial, g _ ?_⟩, fun c => ⟨trivial, g _ ?_⟩, fun c => ⟨trivial, g _ ?_⟩⟩)
  all_goals first | (rw [c]; decide) | (unfold nmF; (repeat' split) <;> omega)
theorem cm_inD {x : Int} (hd : 1 ≤ d) (h1 : dgt x → Q (some (vi 1)) m) (h2 : ¬ dgt x → Q (some (vi 0)) m) : MtX yX12_in cX12_in 3 (some .boolean) d [vi x, vi 48, vi 57] m Q := by
  obtain ⟨e, rfl, _⟩ := dup1 hd
  refine cm_in fun y hy => ?_
  rcases hy with ⟨rfl, hy⟩ | ⟨rfl, hy⟩
  · exact h1 hy
  · exact h2 hy
theorem cm_addStep {x y : Int} (hd : 1 ≤ d) (h0 : 0 ≤ m 12 0 18) (h1 : m 12 0 18 < 130) (hx : 0 ≤ x ∧ x < 128) (h : Q none (upM (upM (upM m 1319 0 (130 + m 12 0 18) x) 1320 0 (130 + m 12 0 18) y) 12 0 18 (m 12 0 18 + 1))) : MtX yX12_addStep cX12_addStep 3 none d [vr 12 0, vi x, vi y] m Q := by
  obtain ⟨e, rfl, _⟩ := dup1 hd
  have e1 : w32 (130 + m 12 0 18) = 130 + m 12 0 18 := w32i (by omega) (by omega)
  refine Y_met rfl 0 rfl (sg_X12_addStep_0 _ _ _ _ ⟨by rw [e1]; omega, by rw [e1]; omega, trivial, ?_⟩)
  rw [e1, b8b8, b8v (by omega) (by omega), if_pos hx.2, w32i (by omega) (by omega)]
  exact h
theorem AfM_ad {x y : Int} {o : Int × Int} (h : AfM m m2 p2 a) (h0 : 0 ≤ m 12 0 18) (hx : x = mcF o.1) (hy : o.1 ≤ 1 → y = o.2) : AfM m (upM (upM (upM m2 1319 0 (130 + m2 12 0 18) x) 1320 0 (130 + m2 12 0 18) y) 12 0 18 (m2 12 0 18 + 1)) p2 (a ++ [o]) := by
  obtain ⟨a1, a2, a3, a4, a5, a6, a7⟩ := h
  have hl : ((a ++ [o]).length : Int) = a.length + 1 := by rw [List.length_append]; simp
  have e0 : (upM (upM (upM m2 1319 0 (130 + m2 12 0 18) x) 1320 0 (130 + m2 12 0 18) y) 12 0 18 (m2 12 0 18 + 1)) 1319 0 = fun i => if i = 130 + m2 12 0 18 then x else m2 1319 0 i := by
    rw [up_f (by decide), up_f (by decide), up_e]
  have e1 : (upM (upM (upM m2 1319 0 (130 + m2 12 0 18) x) 1320 0 (130 + m2 12 0 18) y) 12 0 18 (m2 12 0 18 + 1)) 1320 0 = fun i => if i = 130 + m2 12 0 18 then y else m2 1320 0 i := by
    rw [up_f (by decide), up_e, up_f (by decide)]
  refine ⟨?_, ?_, ?_, ?_, ?_, ?_, ?_⟩
  · rw [up_i (by decide), up_k (by decide), up_k (by decide)]; exact a1
  · rw [up_i (by decide), up_k (by decide), up_k (by decide)]; exact a2
  · rw [up_i (by decide), up_k (by decide), up_k (by decide)]; exact a3
  · rw [up_s]; omega
  · rw [e0, e1]
    refine enM_mk (enM_cg (fun i c c2 => ?_) a5) ⟨?_, fun c => ?_, trivial⟩
    · exact ⟨if_neg (by omega), if_neg (by omega)⟩
    · exact (if_pos (by omega)).trans hx
    · exact (if_pos (by omega)).trans (hy c)
  · rw [e0, e1]
    intro i c
    simp only
    rw [if_neg (by omega), if_neg (by omega)]
    exact a6 i c
  · exact FrE_up (FrE_up (FrE_up a7 (Or.inr ⟨Or.inl rfl, by omega⟩)) (Or.inr ⟨Or.inr rfl, by omega⟩)) (Or.inl ⟨rfl, Or.inr (Or.inr (Or.inr rfl))⟩)
theorem cm_addA {x y : Int} {o2 : Int × Int} (hd : 1 ≤ d) (h0 : 0 ≤ m 12 0 18) (hA : AfM m m2 p2 a) (h1 : m2 12 0 18 ≤ 120) (hx : x = mcF o2.1) (hx2 : 0 ≤ x ∧ x < 128) (hy : o2.1 ≤ 1 → y = o2.2) (h : ∀ m3, AfM m m3 p2 (a ++ [o2]) → Q none m3) : MtX yX12_addStep cX12_addStep 3 none d [vr 12 0, vi x, vi y] m2 Q :=
  cm_addStep hd (by rw [hA.2.2.2.1]; omega) (by omega) hx2 (h _ (AfM_ad hA h0 hx hy))
theorem cm_addB {x y : Int} (hd : 1 ≤ d) (hB : BdM m m2 p2 w) (hw : w < 130) (hx2 : 0 ≤ x ∧ x < 128) (h : ∀ m3, BdM m m3 p2 (w + 1) → Q none m3) : MtX yX12_addStep cX12_addStep 3 none d [vr 12 0, vi x, vi y] m2 Q := by
  obtain ⟨b1, b2, b3, b4, b5⟩ := hB
  refine cm_addStep hd b4.1 (by omega) hx2 (h _ ⟨?_, b2, ?_, ?_, ?_⟩)
  · rw [up_i (by decide), up_k (by decide), up_k (by decide)]; exact b1
  · rw [up_i (by decide), up_k (by decide), up_k (by decide)]; exact b3
  · rw [up_s]; omega
  · exact FrE_up (FrE_up (FrE_up b5 (Or.inr ⟨Or.inl rfl, by omega⟩)) (Or.inr ⟨Or.inr rfl, by omega⟩)) (Or.inl ⟨rfl, Or.inr (Or.inr (Or.inr rfl))⟩)
end
