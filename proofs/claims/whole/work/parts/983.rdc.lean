/-! the class reads a text: what it leaves -/
def n5O (a : OpL) : Prop := ∀ o ∈ a, o.1 = 1 → o.2 ≠ 5
def FrT (L : Nat) (m m2 : AMem) : Prop := ∀ k j i, ¬ (k = 4 ∧ (i = 2 ∨ i = 3)) → ¬ ((k = 3 ∨ k = 400 ∨ k = 401) ∧ j = L) → m2 k j i = m k j i
def sgC (m : AMem) : Int := if m 4 0 3 < 0 then pkT (m 500 0) (m 4 0 1) (m 4 0 2) else -1
def OkCl (m : AMem) : Prop := m 4 0 1 ≤ 120 ∧ m 4 0 1 ≤ 120 ∧ 0 ≤ m 4 0 2 ∧ m 4 0 2 ≤ 120
def AfC (L : Nat) (m m2 : AMem) (p2 : Int) (a : OpL) : Prop := m2 4 0 2 = p2 ∧ m2 4 0 3 = -1 ∧ m2 3 L 3 = m 3 L 3 + a.length ∧ enO (m2 400 L) (m2 401 L) (m 3 L 3) a ∧ (∀ i : Int, i < m 3 L 3 → m2 400 L i = m 400 L i ∧ m2 401 L i = m 401 L i) ∧ (m2 3 L 4 = 0 → m 3 L 4 = 0 ∧ n5O a) ∧ FrT L m m2
def BdC (L : Nat) (m m2 : AMem) (p2 : Int) : Prop := FrT L m m2 ∧ 0 ≤ m2 3 L 3 ∧ (0 ≤ m2 4 0 2 ∧ m2 4 0 2 ≤ 120) ∧ 0 ≤ p2 ∧ (m2 4 0 3 = p2 ∨ (m2 4 0 3 = -1 ∧ m2 4 0 2 = p2 ∧ p2 < m 4 0 1 ∧ dgt (m 500 0 p2)))
def PstC (L : Nat) (m m2 : AMem) (p2 : Int) (res : Option OpL) : Prop := match res with
  | some a => AfC L m m2 p2 a
  | none => BdC L m m2 p2
def PrC (L : Nat) (T : Int → Int) (n : Int) (m : AMem) (p : Int) : Prop := (m 4 0 4 = L ∧ m 4 0 1 = n ∧ m 4 0 4 = L ∧ m 500 0 = T) ∧ m 4 0 2 = p ∧ m 4 0 3 = -1 ∧ 0 ≤ m 3 L 3 ∧ m 3 L 3 ≤ p ∧ 0 ≤ p ∧ p ≤ n
theorem enO_mk {f g : Int → Int} : ∀ {a b : OpL} {x : Int}, enO f g x a → enO f g (x + a.length) b → enO f g x (a ++ b) := by
  intro a
  induction a with
  | nil => intro b x _ h; simpa using h
  | cons o os ih =>
    intro b x h h2
    obtain ⟨h1, h3, h4⟩ := h
    refine ⟨h1, h3, ih h4 ?_⟩
    have e : x + ((o :: os).length : Int) = x + 1 + os.length := by simp; omega
    rw [← e]; exact h2
theorem enO_cg {f g f2 g2 : Int → Int} : ∀ {a : OpL} {x : Int}, (∀ i : Int, x ≤ i → i < x + a.length → f2 i = f i ∧ g2 i = g i) → enO f g x a → enO f2 g2 x a := by
  intro a
  induction a with
  | nil => intro x _ _; trivial
  | cons o os ih =>
    intro x h h2
    have el : (((o :: os).length : Nat) : Int) = os.length + 1 := by simp
    rw [el] at h
    obtain ⟨q1, q2⟩ := h x (by omega) (by omega)
    exact ⟨q1.trans h2.1, q2.trans h2.2.1, ih (fun i c c2 => h i (by omega) (by omega)) h2.2.2⟩
section
variable {L : Nat} {m m1 m2 m3 : AMem} {T : Int → Int} {n p p1 p2 : Int} {a b : OpL} {d : Nat} {Q : Option AV → AMem → Prop}
theorem FrT_refl : FrT L m m := fun _ _ _ _ _ => rfl
theorem FrT_trans (h : FrT L m m1) (h2 : FrT L m1 m2) : FrT L m m2 := fun k j i c c2 => (h2 k j i c c2).trans (h k j i c c2)
theorem FrT_up {k j : Nat} {i v : Int} (h : FrT L m m1) (hc : (k = 4 ∧ (i = 2 ∨ i = 3)) ∨ ((k = 3 ∨ k = 400 ∨ k = 401) ∧ j = L)) : FrT L m (upM m1 k j i v) := by
  intro k2 j2 i2 c c2
  unfold upM
  split
  · split
    · split
      · rename_i e1 e2 e3
        subst e1 e2 e3
        exact absurd hc (by rintro (q | q); exact c q; exact c2 q)
      · exact h _ _ _ c c2
    · exact h _ _ _ c c2
  · exact h _ _ _ c c2
theorem FrT_n (h : FrT L m m2) {k j : Nat} {i : Int} (h4 : k ≠ 4) (h3 : k ≠ 3) (h40 : k ≠ 400) (h41 : k ≠ 401) : m2 k j i = m k j i := h k j i (fun q => h4 q.1) (fun q => by
  rcases q.1 with q | q | q
  · exact h3 q
  · exact h40 q
  · exact h41 q)
theorem FrT_4 (h : FrT L m m2) {i : Int} (c : ¬ (i = 2 ∨ i = 3)) : m2 4 0 i = m 4 0 i := h 4 0 i (fun q => c q.2) (fun q => by omega)
theorem PrC_ok (h : PrC L T n m p) (hn : n ≤ 120) : OkCl m := by
  obtain ⟨⟨h1, h2, h3, h4⟩, h5, h6, h7, h8, h9, h10⟩ := h
  exact ⟨by omega, by omega, by omega, by omega⟩
theorem PrC_sg (h : PrC L T n m p) : sgC m = pkT T n p := by
  obtain ⟨⟨h1, h2, h3, h4⟩, h5, h6, h7, h8, h9, h10⟩ := h
  unfold sgC
  rw [if_pos (by omega), h4, h2, h5]
theorem PrC_af (h : PrC L T n m p) (hA : AfC L m m2 p1 a) (h1 : (a.length : Int) ≤ p1 - p) (h2 : p1 ≤ n) : PrC L T n m2 p1 := by
  obtain ⟨⟨b1, b2, b3, b4⟩, b5, b6, b7, b8, b9, b10⟩ := h
  obtain ⟨a1, a2, a3, a4, a5, a6, a7⟩ := hA
  refine ⟨⟨by rw [FrT_4 a7 (by omega)]; exact b1, by rw [FrT_4 a7 (by omega)]; exact b2, by rw [FrT_4 a7 (by omega)]; exact b3, ?_⟩, a1, a2, by omega, by omega, by omega, h2⟩
  rw [← b4]
  funext i
  exact FrT_n a7 (by decide) (by decide) (by decide) (by decide)
theorem PrC_mv {v : Int} (h : PrC L T n m p) (hv : p ≤ v) (hv2 : v ≤ n) : PrC L T n (upM m 4 0 2 v) v := by
  obtain ⟨⟨b1, b2, b3, b4⟩, b5, b6, b7, b8, b9, b10⟩ := h
  refine ⟨⟨?_, ?_, ?_, ?_⟩, up_s, ?_, ?_, ?_, by omega, hv2⟩
  · rw [up_i (by decide)]; exact b1
  · rw [up_i (by decide)]; exact b2
  · rw [up_i (by decide)]; exact b3
  · rw [up_f (by decide)]; exact b4
  · rw [up_i (by decide)]; exact b6
  · rw [up_k (by decide)]; exact b7
  · rw [up_k (by decide)]; omega
theorem AfC_refl (h : PrC L T n m p) : AfC L m m p [] := by
  obtain ⟨⟨b1, b2, b3, b4⟩, b5, b6, b7, b8, b9, b10⟩ := h
  exact ⟨b5, b6, by simp, trivial, fun i _ => ⟨rfl, rfl⟩, fun c => ⟨c, fun o ho => by simp at ho⟩, FrT_refl⟩
theorem AfC_tr (h : AfC L m m1 p1 a) (h2 : AfC L m1 m2 p2 b) : AfC L m m2 p2 (a ++ b) := by
  obtain ⟨a1, a2, a3, a4, a5, a6, a7⟩ := h
  obtain ⟨b1, b2, b3, b4, b5, b6, b7⟩ := h2
  have hl := List.length_append (as := a) (bs := b)
  refine ⟨b1, b2, by omega, enO_mk (enO_cg (fun i c c2 => b5 i (by omega)) a4) ?_, fun i c => ?_, fun c => ?_, FrT_trans a7 b7⟩
  · rw [← a3]; exact b4
  · have q := b5 i (by omega)
    have q2 := a5 i c
    exact ⟨q.1.trans q2.1, q.2.trans q2.2⟩
  · obtain ⟨c1, c2⟩ := b6 c
    obtain ⟨c3, c4⟩ := a6 c1
    refine ⟨c3, fun o ho => ?_⟩
    rcases List.mem_append.mp ho with ho | ho
    · exact c4 o ho
    · exact c2 o ho
theorem AfC_mv {v : Int} (h : AfC L (upM m 4 0 2 v) m2 p2 b) : AfC L m m2 p2 b := by
  obtain ⟨b1, b2, b3, b4, b5, b6, b7⟩ := h
  rw [up_k (by decide)] at b3 b4 b6
  refine ⟨b1, b2, b3, b4, fun i c => ?_, b6, FrT_trans (FrT_up FrT_refl (Or.inl ⟨rfl, Or.inl rfl⟩)) b7⟩
  have q := b5 i (by rw [up_k (by decide)]; exact c)
  rw [up_k (by decide), up_k (by decide)] at q
  exact q
theorem AfC_m2 {v : Int} (h : AfC L m m2 p2 b) : AfC L m (upM m2 4 0 2 v) v b := by
  obtain ⟨b1, b2, b3, b4, b5, b6, b7⟩ := h
  refine ⟨up_s, ?_, ?_, ?_, ?_, ?_, FrT_up b7 (Or.inl ⟨rfl, Or.inl rfl⟩)⟩
  · rw [up_i (by decide)]; exact b2
  · rw [up_k (by decide)]; exact b3
  · rw [up_f (by decide), up_f (by decide)]; exact b4
  · rw [up_f (by decide), up_f (by decide)]; exact b5
  · rw [up_k (by decide)]; exact b6
theorem BdC_pre (h : FrT L m m1) (h2 : BdC L m1 m2 p2) : BdC L m m2 p2 := by
  obtain ⟨b1, b2, b3, b4, b5⟩ := h2
  refine ⟨FrT_trans h b1, b2, b3, b4, ?_⟩
  rw [FrT_4 h (by omega), FrT_n h (by decide) (by decide) (by decide) (by decide)] at b5
  exact b5
theorem BdC_post (h : BdC L m m1 p2) (h2 : FrT L m1 m2) (h3 : 0 ≤ m2 3 L 3) (h4 : m2 4 0 = m1 4 0) : BdC L m m2 p2 := by
  obtain ⟨b1, b2, b3, b4, b5⟩ := h
  refine ⟨FrT_trans b1 h2, h3, ?_, b4, ?_⟩
  · rw [h4]; exact b3
  · rw [h4]; exact b5
theorem BdC_sg (h : BdC L m m2 p2) : sgC m2 = -1 ∨ dgt (sgC m2) := by
  obtain ⟨b1, b2, b3, b4, b5⟩ := h
  unfold sgC
  rcases b5 with b5 | ⟨b5, b6, b7, b8⟩
  · left; rw [if_neg (by omega)]
  · right
    rw [if_pos (by omega), FrT_4 b1 (by omega), b6, pkT_T b7, FrT_n b1 (by decide) (by decide) (by decide) (by decide)]
    exact b8
theorem BdC_ok (h : BdC L m m2 p2) (hO : OkCl m) : OkCl m2 := by
  obtain ⟨b1, b2, b3, b4, b5⟩ := h
  exact ⟨by rw [FrT_4 b1 (by omega)]; exact hO.1, by rw [FrT_4 b1 (by omega)]; exact hO.2.1, b3.1, b3.2⟩
theorem BdC_into (h : BdC L m m2 p2) : m2 4 0 4 = m 4 0 4 := FrT_4 h.1 (by omega)
theorem BdC_0 (h : PrC L T n m p) (hn : n ≤ 120) : BdC L m (upM m 4 0 3 p) p := by
  obtain ⟨⟨b1, b2, b3, b4⟩, b5, b6, b7, b8, b9, b10⟩ := h
  refine ⟨FrT_up FrT_refl (Or.inl ⟨rfl, Or.inr rfl⟩), ?_, ?_, b9, Or.inl up_s⟩
  · rw [up_k (by decide)]; exact b7
  · rw [up_i (by decide)]; omega
/-! the smallest -/
theorem cc_sign (hO : OkCl m) (hd : 1 ≤ d) (h : Q (some (vi (sgC m))) m) : MtX yX4_sign cX4_sign 1 (some .int) d [vr 4 0] m Q := by
  obtain ⟨e, rfl, _⟩ := dup1 hd
  obtain ⟨h0, hn, hp, hp2⟩ := hO
  have g : ∀ v, sgC m = v → Q (some (vi v)) m := fun v e => e ▸ h
  refine Y_met rfl 0 rfl (sg_X4_sign_0 _ _ ⟨fun c => ⟨trivial, g _ ?_⟩, fun c => ⟨fun c2 => by omega, fun c2 => ⟨fun c3 => ⟨trivial, g _ ?_⟩, fun c3 => ⟨⟨by omega, by omega⟩, trivial, g _ ?_⟩⟩⟩⟩)
  · unfold sgC; rw [if_neg (by omega)]
  · unfold sgC pkT; rw [if_pos (by omega), if_neg (by omega)]
  · unfold sgC pkT; rw [if_pos (by omega), if_pos (by omega)]
theorem cc_isDigit {x : Int} (hd : 1 ≤ d) (h1 : dgt x → Q (some (vi 1)) m) (h2 : ¬ dgt x → Q (some (vi 0)) m) : MtX yX4_isDigit cX4_isDigit 1 (some .boolean) d [vi x] m Q := by
  obtain ⟨e, rfl, _⟩ := dup1 hd
  exact Y_met rfl 0 rfl (sg_X4_isDigit_0 _ _ _ ⟨fun c => ⟨Or.inl rfl, h2 fun q => by unfold dgt at q; omega⟩, fun c => ⟨fun c2 => ⟨Or.inl rfl, h2 fun q => by unfold dgt at q; omega⟩, fun c2 => ⟨Or.inr rfl, h1 ⟨by omega, by omega⟩⟩⟩⟩)
theorem cc_takes {c : Int} (hO : OkCl m) (hd : 2 ≤ d) (h1 : sgC m = c → Q (some (vi 1)) (upM m 4 0 2 (m 4 0 2 + 1))) (h2 : ¬ sgC m = c → Q (some (vi 0)) m) : MtX yX4_takes cX4_takes 3 (some .boolean) d [vr 4 0, vi c] m Q := by
  obtain ⟨e, rfl, _⟩ := dup1 hd
  refine Y_met rfl 1 rfl (sg_X4_takes_0 _ _ _ (cc_sign hO (by omega) ⟨_, rfl, fun c1 => ⟨fun _ => ⟨Or.inl rfl, ?_⟩, fun c => absurd rfl c⟩, fun c1 => ⟨fun c => absurd c (by decide), fun _ => ⟨Or.inr rfl, ?_⟩⟩⟩))
  · rw [up_id (by have := hO.2.2; rw [w32i (by omega) (by omega)]; omega)]
    exact h2 c1
  · have := hO.2.2
    rw [w32i (by omega) (by omega)]
    exact h1 c1
theorem cc_fail (hd : 1 ≤ d) (h1 : 0 ≤ m 4 0 3 → Q none m) (h2 : m 4 0 3 < 0 → Q none (upM m 4 0 3 (m 4 0 2))) : MtX yX4_fail cX4_fail 1 none d [vr 4 0] m Q := by
  obtain ⟨e, rfl, _⟩ := dup1 hd
  exact Y_met rfl 0 rfl (sg_X4_fail_0 _ _ ⟨fun c => ⟨trivial, h1 c⟩, fun c => ⟨trivial, h2 (by omega)⟩⟩)
theorem cc_stp {x y : Int} (hd : 1 ≤ d) (h0 : 0 ≤ m 3 L 3) (h1 : m 3 L 3 < 128) (h : Q (some (vi (m 3 L 3))) (upM (upM (upM m 400 L (m 3 L 3) x) 401 L (m 3 L 3) y) 3 L 3 (m 3 L 3 + 1))) : MtX yX3_add cX3_add 4 (some .int) d [vr 3 L, vi x, vi y] m Q := by
  obtain ⟨e, rfl, _⟩ := dup1 hd
  refine Y_met rfl 1 rfl (sg_X3_add_0 _ _ _ _ _ ⟨fun c => by omega, fun _ => ⟨⟨h0, h1⟩, ⟨h0, h1⟩, trivial, ?_⟩⟩)
  rw [w32i (by omega) (by omega)]
  exact h
theorem cc_addG {x y : Int} (hd : 1 ≤ d) (h0 : 0 ≤ m 3 L 3) (h : ∀ z m2, FrT L m m2 → 0 ≤ m2 3 L 3 → m2 4 0 = m 4 0 → Q (some (vi z)) m2) : MtX yX3_add cX3_add 4 (some .int) d [vr 3 L, vi x, vi y] m Q := by
  obtain ⟨e, rfl, _⟩ := dup1 hd
  refine Y_met rfl 1 rfl (sg_X3_add_0 _ _ _ _ _ ⟨fun c => ⟨trivial, h _ _ FrT_refl h0 rfl⟩, fun c => ⟨⟨h0, by omega⟩, ⟨h0, by omega⟩, trivial, h _ _ ?_ ?_ ?_⟩⟩)
  · exact FrT_up (FrT_up (FrT_up FrT_refl (Or.inr ⟨Or.inr (Or.inl rfl), rfl⟩)) (Or.inr ⟨Or.inr (Or.inr rfl), rfl⟩)) (Or.inr ⟨Or.inl rfl, rfl⟩)
  · rw [up_s, w32i (by omega) (by omega)]; omega
  · rw [up_f (by decide), up_f (by decide), up_f (by decide)]
/-- one more step -/
theorem AfC_ad {x y : Int} (h : AfC L m m2 p2 a) (hx : x = 1 → y ≠ 5) : AfC L m (upM (upM (upM m2 400 L (m2 3 L 3) x) 401 L (m2 3 L 3) y) 3 L 3 (m2 3 L 3 + 1)) p2 (a ++ [(x, y)]) := by
  obtain ⟨a1, a2, a3, a4, a5, a6, a7⟩ := h
  have hl : ((a ++ [(x, y)]).length : Int) = a.length + 1 := by rw [List.length_append]; simp
  have e0 : (upM (upM (upM m2 400 L (m2 3 L 3) x) 401 L (m2 3 L 3) y) 3 L 3 (m2 3 L 3 + 1)) 400 L = fun i => if i = m2 3 L 3 then x else m2 400 L i := by
    rw [up_f (by decide), up_f (by decide), up_e]
  have e1 : (upM (upM (upM m2 400 L (m2 3 L 3) x) 401 L (m2 3 L 3) y) 3 L 3 (m2 3 L 3 + 1)) 401 L = fun i => if i = m2 3 L 3 then y else m2 401 L i := by
    rw [up_f (by decide), up_e, up_f (by decide)]
  refine ⟨?_, ?_, ?_, ?_, ?_, ?_, ?_⟩
  · rw [up_k (by decide), up_k (by decide), up_k (by decide)]; exact a1
  · rw [up_k (by decide), up_k (by decide), up_k (by decide)]; exact a2
  · rw [up_s]; omega
  · rw [e0, e1]
    refine enO_mk (enO_cg (fun i c c2 => ?_) a4) ⟨?_, ?_, trivial⟩
    · rw [if_neg (by omega), if_neg (by omega)]; exact ⟨rfl, rfl⟩
    · simp only; rw [if_pos (by omega)]
    · simp only; rw [if_pos (by omega)]
  · rw [e0, e1]
    intro i c
    simp only
    rw [if_neg (by omega), if_neg (by omega)]
    exact a5 i c
  · rw [up_i (by decide), up_k (by decide), up_k (by decide)]
    intro c
    obtain ⟨c1, c2⟩ := a6 c
    refine ⟨c1, fun o ho => ?_⟩
    rcases List.mem_append.mp ho with ho | ho
    · exact c2 o ho
    · rw [List.mem_singleton] at ho
      subst ho
      exact hx
  · exact FrT_up (FrT_up (FrT_up a7 (Or.inr ⟨Or.inr (Or.inl rfl), rfl⟩)) (Or.inr ⟨Or.inr (Or.inr rfl), rfl⟩)) (Or.inr ⟨Or.inl rfl, rfl⟩)
theorem cc_takesJoiner {r : Nat} (hr : r ≤ 4) (hO : OkCl m) (hs : sgC m ≤ 255) (hd : 5 ≤ d) (h1 : 0 ≤ jof r (sgC m) → Q (some (vi (jof r (sgC m)))) (upM m 4 0 2 (m 4 0 2 + 1))) (h2 : jof r (sgC m) < 0 → Q (some (vi (-1))) m) : MtX yX4_takesJoiner cX4_takesJoiner 4 (some .int) d [vr 4 0, vi r] m Q := by
  obtain ⟨e, rfl, hd⟩ := dup1 hd
  have hp := hO.2.2
  have ej := jof_ix (t := sgC m) hr
  refine Y_met rfl 2 rfl (sg_X4_takesJoiner_0 _ _ _ (cc_sign hO (by omega) ⟨_, rfl, fun c => cc_ixb c hs (by omega) ⟨_, rfl, fun c2 => ⟨trivial, h2 ?_⟩, fun c2 => ⟨⟨by omega, ?_⟩, fun c3 => ⟨trivial, ?_⟩, fun c3 => ⟨trivial, h2 ?_⟩⟩⟩, fun c => ⟨fun _ => ⟨trivial, h2 ?_⟩, fun c2 => absurd (by decide) c2⟩⟩))
  · rw [ej, if_neg (by omega)]; decide
  · have := ixB_rg (sgC m)
    rw [show ((romL 2002).length : Int) = 10 by rfl]
    omega
  · have q : jof r (sgC m) = ixB (sgC m) := by rw [ej, if_pos ⟨by omega, c3⟩]
    rw [w32i (by omega) (by omega), ← q]
    exact h1 (by omega)
  · rw [ej, if_neg (fun q => c3 q.2)]; decide
  · have q : ixB (sgC m) = -1 := by
      unfold ixB
      (repeat' split) <;> omega
    rw [ej, q]
    split <;> omega
end
