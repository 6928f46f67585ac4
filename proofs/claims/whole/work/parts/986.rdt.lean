/-! lines and a whole text, told once -/
def RdN (T : Int → Int) (n : Int) (f : Nat) (p p2 : Int) (res : Option (OpL × OpL)) : Prop :=
  (res = none ∧ RdZ T n f 0 p 0 p2 none) ∨ ∃ p1 a, RdZ T n f 0 p 0 p1 (some a) ∧ ((¬ pkT T n p1 = 63 ∧ p2 = p1 ∧ res = some ([], a)) ∨ (pkT T n p1 = 63 ∧ ∃ b, RdZ T n f 0 (p1 + 1) 0 p2 b ∧ res = Option.map (fun b => (a, b)) b))
def RdS (T : Int → Int) (n : Int) : Nat → Int → Int → Option LnL → Prop
  | 0 => fun _ _ _ => False
  | f + 1 => fun p p2 res => (¬ pkT T n p = 59 ∧ p2 = p ∧ res = some []) ∨ (pkT T n p = 59 ∧ ((res = none ∧ RdN T n f (p + 1) p2 none) ∨ ∃ p1 q b, RdN T n f (p + 1) p1 (some q) ∧ RdS T n f p1 p2 b ∧ res = Option.map (q :: ·) b))
def RdT (T : Int → Int) (n : Int) (f : Nat) (p2 : Int) (res : Option LnL) : Prop := (res = none ∧ RdN T n f 0 p2 none) ∨ ∃ p1 q b, RdN T n f 0 p1 (some q) ∧ RdS T n f p1 p2 b ∧ res = Option.map (q :: ·) b
section
variable {T : Int → Int} {n p p2 : Int} {f : Nat}
theorem ok_pos {a : OpL} (h : okO a 0 1) : 1 ≤ a.length := by
  cases a with
  | nil => have h : (0 : Nat) = 1 := h; omega
  | cons o os => simp
theorem RdN_f {res : Option (OpL × OpL)} (h : RdN T n f p p2 res) (hp : p ≤ n) : p ≤ p2 ∧ p2 ≤ n ∧ ∀ q, res = some q → okL [q] ∧ 1 ≤ q.2.length ∧ ((q.1 = [] ∧ (q.2.length : Int) ≤ p2 - p) ∨ (q.1 ≠ [] ∧ (q.1.length : Int) + q.2.length + 1 ≤ p2 - p)) := by
  rcases h with ⟨e, g⟩ | ⟨p1, a, g, ⟨c, e1, e2⟩ | ⟨c, b, g2, e⟩⟩
  · have := Rd_f _ _ _ _ _ _ (by omega) g hp
    subst e
    exact ⟨this.1, this.2.1, fun q hq => by simp at hq⟩
  · have q1 := Rd_f _ _ _ _ _ _ (by omega) g hp
    have q2 := q1.2.2 a rfl
    rw [if_pos (by omega)] at q2
    subst e1 e2
    refine ⟨q1.1, q1.2.1, fun q hq => ?_⟩
    have hq := Option.some.inj hq
    subst hq
    refine ⟨fun r hr => ?_, ok_pos q2.2, Or.inl ⟨rfl, q2.1⟩⟩
    rw [List.mem_singleton] at hr
    subst hr
    exact ⟨Or.inl rfl, q2.2⟩
  · have q1 := Rd_f _ _ _ _ _ _ (by omega) g hp
    have q2 := q1.2.2 a rfl
    rw [if_pos (by omega)] at q2
    have hl := pkT_lt (T := T) (n := n) (p := p1) (by omega)
    have q3 := Rd_f _ _ _ _ _ _ (by omega) g2 (by omega)
    refine ⟨by have := q1.1; have := q3.1; omega, q3.2.1, fun q hq => ?_⟩
    subst e
    cases b with
    | none => simp at hq
    | some b =>
      have hq := Option.some.inj hq
      subst hq
      have q4 := q3.2.2 b rfl
      rw [if_pos (by omega)] at q4
      refine ⟨fun r hr => ?_, ok_pos q4.2, Or.inr ⟨fun c => ?_, by have := q2.1; have := q4.1; simp only; omega⟩⟩
      · rw [List.mem_singleton] at hr
        subst hr
        exact ⟨Or.inr q2.2, q4.2⟩
      · have := ok_pos q2.2
        simp only at c
        rw [c] at this
        simp at this
theorem RdN_ex (hp : p ≤ n) : ∃ p2 res, ∃ F : Nat, ∀ f : Nat, F ≤ f → RdN T n f p p2 res := by
  obtain ⟨p1, r1, F, hF⟩ := Rd_ex (T := T) (n := n) (n - p).toNat p 0 0 (by omega) hp (by omega)
  have q1 := Rd_f _ _ _ _ _ _ (by omega) (hF F (Nat.le_refl _)) hp
  cases r1 with
  | none => exact ⟨p1, none, F, fun f hf => Or.inl ⟨rfl, hF f hf⟩⟩
  | some a =>
    by_cases c : pkT T n p1 = 63
    · have hl := pkT_lt (T := T) (n := n) (p := p1) (by omega)
      obtain ⟨p2, r2, F2, hF2⟩ := Rd_ex (T := T) (n := n) (n - (p1 + 1)).toNat (p1 + 1) 0 0 (by omega) (by omega) (by omega)
      exact ⟨p2, _, F + F2, fun f hf => Or.inr ⟨p1, a, hF f (by omega), Or.inr ⟨c, r2, hF2 f (by omega), rfl⟩⟩⟩
    · exact ⟨p1, _, F, fun f hf => Or.inr ⟨p1, a, hF f hf, Or.inl ⟨c, rfl, rfl⟩⟩⟩
theorem RdS_ex : ∀ (N : Nat) (p : Int), n - p ≤ N → p ≤ n → ∃ p2 res, ∃ F : Nat, ∀ f : Nat, F ≤ f → RdS T n f p p2 res := by
  intro N
  induction N with
  | zero =>
    intro p h hp
    have c : ¬ pkT T n p = 59 := fun c => by have := pkT_lt (T := T) (n := n) (p := p) (by omega); omega
    refine ⟨p, some [], 1, fun f hf => ?_⟩
    obtain ⟨g, rfl, _⟩ := Rd_up hf
    exact Or.inl ⟨c, rfl, rfl⟩
  | succ N ih =>
    intro p h hp
    by_cases c : pkT T n p = 59
    · have hl := pkT_lt (T := T) (n := n) (p := p) (by omega)
      obtain ⟨p1, r1, F, hF⟩ := RdN_ex (T := T) (n := n) (p := p + 1) (by omega)
      have q1 := RdN_f (hF F (Nat.le_refl _)) (by omega)
      cases r1 with
      | none =>
        refine ⟨p1, none, F + 1, fun f hf => ?_⟩
        obtain ⟨g, rfl, hg⟩ := Rd_up hf
        exact Or.inr ⟨c, Or.inl ⟨rfl, hF g hg⟩⟩
      | some q =>
        obtain ⟨p2, b, F2, hF2⟩ := ih p1 (by have := q1.1; omega) q1.2.1
        refine ⟨p2, Option.map (q :: ·) b, F + F2 + 1, fun f hf => ?_⟩
        obtain ⟨g, rfl, hg⟩ := Rd_up hf
        exact Or.inr ⟨c, Or.inr ⟨p1, q, b, hF g (by omega), hF2 g (by omega), rfl⟩⟩
    · refine ⟨p, some [], 1, fun f hf => ?_⟩
      obtain ⟨g, rfl, _⟩ := Rd_up hf
      exact Or.inl ⟨c, rfl, rfl⟩
theorem RdT_ex (hn : 0 ≤ n) : ∃ f p2 res, RdT T n f p2 res := by
  obtain ⟨p1, r1, F, hF⟩ := RdN_ex (T := T) (n := n) (p := 0) hn
  have q1 := RdN_f (hF F (Nat.le_refl _)) hn
  cases r1 with
  | none => exact ⟨F, p1, none, Or.inl ⟨rfl, hF F (Nat.le_refl _)⟩⟩
  | some q =>
    obtain ⟨p2, b, F2, hF2⟩ := RdS_ex (T := T) (n := n) (n - p1).toNat p1 (by omega) q1.2.1
    exact ⟨F + F2, p2, _, Or.inr ⟨p1, q, b, hF _ (by omega), hF2 _ (by omega), rfl⟩⟩
theorem RdS_1 {p2 : Int} {res : Option LnL} (h : RdS T n (f + 1) p p2 res) : (¬ pkT T n p = 59 ∧ p2 = p ∧ res = some []) ∨ (pkT T n p = 59 ∧ ((res = none ∧ RdN T n f (p + 1) p2 none) ∨ ∃ p1 q b, RdN T n f (p + 1) p1 (some q) ∧ RdS T n f p1 p2 b ∧ res = Option.map (q :: ·) b)) := h
end
/-! the class's lines -/
theorem enO_ap {f g : Int → Int} : ∀ {a b : OpL} {x : Int}, enO f g x (a ++ b) → enO f g x a ∧ enO f g (x + a.length) b := by
  intro a
  induction a with
  | nil => intro b x h; exact ⟨trivial, by simpa using h⟩
  | cons o os ih =>
    intro b x h
    obtain ⟨h1, h2, h3⟩ := h
    obtain ⟨g1, g2⟩ := ih h3
    refine ⟨⟨h1, h2, g1⟩, ?_⟩
    have e : x + ((o :: os).length : Int) = x + 1 + os.length := by simp; omega
    rw [e]; exact g2
theorem enL_app {f g : Int → Int} : ∀ {ls r : LnL} {x e e2 : Int}, enL f g x ls e → enL f g e r e2 → enL f g x (ls ++ r) e2 := by
  intro ls
  induction ls with
  | nil => intro r x e e2 h h2; have : x = e := h; subst this; exact h2
  | cons q os ih =>
    intro r x e e2 h h2
    obtain ⟨t, b⟩ := q
    show enL f g x ((t, b) :: (os ++ r)) e2
    unfold enL at h ⊢
    split at h
    · rename_i ht
      rw [if_pos ht]
      exact ⟨h.1, h.2.1, ih h.2.2 h2⟩
    · rename_i ht
      rw [if_neg ht]
      exact ⟨h.1, h.2.1, h.2.2.1, h.2.2.2.1, h.2.2.2.2.1, ih h.2.2.2.2.2 h2⟩
theorem enL_cg {f g f2 g2 : Int → Int} : ∀ {ls : LnL} {x e : Int}, (∀ i : Int, x ≤ i → i < e → f2 i = f i ∧ g2 i = g i) → enL f g x ls e → enL f2 g2 x ls e := by
  intro ls
  induction ls with
  | nil => intro x e _ h; exact h
  | cons q os ih =>
    intro x e hc h
    obtain ⟨t, b⟩ := q
    unfold enL at h ⊢
    split at h
    · rename_i ht
      rw [if_pos ht]
      have hl := enL_le h.2.2
      refine ⟨enO_cg (fun i c c2 => hc i c (by omega)) h.1, ?_, ih (fun i c c2 => hc i (by omega) c2) h.2.2⟩
      rw [(hc _ (by omega) (by omega)).1]; exact h.2.1
    · rename_i ht
      rw [if_neg ht]
      obtain ⟨h1, h2, h3, h4, h5, h6⟩ := h
      have hl := enL_le h6
      refine ⟨enO_cg (fun i c c2 => hc i c (by omega)) h1, ?_, ?_, enO_cg (fun i c c2 => hc i (by omega) (by omega)) h4, ?_, ih (fun i c c2 => hc i (by omega) c2) h6⟩
      · rw [(hc _ (by omega) (by omega)).1]; exact h2
      · rw [(hc _ (by omega) (by omega)).2]; exact h3
      · rw [(hc _ (by omega) (by omega)).1]; exact h5
def LnC (L : Nat) (m m2 : AMem) (p2 : Int) (q : OpL × OpL) : Prop := m2 4 0 2 = p2 ∧ m2 4 0 3 = -1 ∧ enL (m2 400 L) (m2 401 L) (m 3 L 3) [q] (m2 3 L 3) ∧ (∀ i : Int, i < m 3 L 3 → m2 400 L i = m 400 L i ∧ m2 401 L i = m 401 L i) ∧ (m2 3 L 4 = 0 → m 3 L 4 = 0 ∧ n5O q.1 ∧ n5O q.2) ∧ FrT L m m2 ∧ 0 ≤ m2 3 L 3 ∧ m2 3 L 3 ≤ p2 + 1
def PstN (L : Nat) (m m2 : AMem) (p2 : Int) (res : Option (OpL × OpL)) : Prop := match res with
  | some q => LnC L m m2 p2 q
  | none => BdC L m m2 p2
section
variable {L : Nat} {m m1 m2 : AMem} {T : Int → Int} {n p o p1 p2 : Int} {a b : OpL} {f d : Nat} {Q : Option AV → AMem → Prop}
theorem n5_l {a b : OpL} (h : n5O (a ++ b)) : n5O a := fun o ho => h o (List.mem_append.mpr (Or.inl ho))
theorem n5_r {a b : OpL} (h : n5O (a ++ b)) : n5O b := fun o ho => h o (List.mem_append.mpr (Or.inr ho))
theorem cc_addV {x y : Int} (hd : 1 ≤ d) (hP : PrC L T n m2 p2) (hn : n ≤ 120) (hA : AfC L m m2 p2 a) (hx : x = 1 → y ≠ 5) (h : ∀ m3, AfC L m m3 p2 (a ++ [(x, y)]) → Q (some (vi (m 3 L 3 + a.length))) m3) : MtX yX3_add cX3_add 4 (some .int) d [vr 3 L, vi x, vi y] m2 Q := by
  obtain ⟨_, b5, b6, b7, b8, b9, b10⟩ := hP
  refine cc_stp hd b7 (by omega) ?_
  rw [hA.2.2.1]
  have q := h _ (AfC_ad hA hx)
  rw [hA.2.2.1] at q
  exact q
theorem cc_skip {x : Int} (hd : 1 ≤ d) (h1 : x < 0 ∨ 128 ≤ x → Q none m) (h2 : 0 ≤ x → x < 128 → Q none (upM m 401 L x (m 3 L 3))) : MtX yX3_skipToEndFrom cX3_skipToEndFrom 2 none d [vr 3 L, vi x] m Q := by
  obtain ⟨e, rfl, _⟩ := dup1 hd
  exact Y_met rfl 0 rfl (sg_X3_skipToEndFrom_0 _ _ _ _ ⟨fun c => ⟨trivial, h1 (Or.inl c)⟩, fun c => ⟨fun c2 => ⟨trivial, h1 (Or.inr c2)⟩, fun c2 => ⟨⟨by omega, by omega⟩, trivial, h2 (by omega) (by omega)⟩⟩⟩)
theorem cc_readLine (hT : ∀ i : Int, 0 ≤ i → i < n → 0 ≤ T i ∧ T i ≤ 255) (hn : n ≤ 120) {res : Option (OpL × OpL)} (h : RdN T n f p p2 res) (hP : PrC L T n m p) (hd : 67 ≤ d) (hQ : ∀ m2, PstN L m m2 p2 res → Q none m2) : MtX yX4_readLine cX4_readLine 2 none d [vr 4 0] m Q := by
  obtain ⟨d, rfl, hd⟩ := dup1 hd
  obtain ⟨hA, _, _⟩ := cc_rd (L := L) hT hn f
  have hpp := hP.2.2.2.2.2
  have hOk := PrC_ok hP hn
  have hF := RdN_f h hpp.2
  have h66 : ndR 0 0 ≤ d := by unfold ndR; omega
  refine Y_met rfl 1 rfl (sg_X4_readLine_0 _ _ ?_)
  rcases h with ⟨e, g⟩ | ⟨p1, a, g, g2⟩
  · subst e
    refine hA 0 _ _ _ _ (by omega) g _ _ _ hP (by omega) (by omega) h66 fun m1 h1 => ⟨rfl, ?_⟩
    have hB : BdC L m m1 p2 := h1
    have hg := BdC_sg hB
    unfold dgt at hg
    refine cc_takes (BdC_ok hB hOk) (by omega) (fun c => by omega) fun _ => ⟨_, rfl, fun _ => ?_, fun c => absurd rfl c⟩
    rw [BdC_into hB, PrC_into hP, Int.toNat_natCast]
    exact ⟨by omega, cc_addB (by omega) hB fun z m3 hB3 => ⟨_, rfl, trivial, hQ m3 hB3⟩⟩
  · have q1 := Rd_f _ _ _ _ _ _ (by omega) g hpp.2
    have q2 := q1.2.2 a rfl
    refine hA 0 _ _ _ _ (by omega) g _ _ _ hP (by omega) (by omega) h66 fun m1 h1 => ⟨rfl, ?_⟩
    have hA1 : AfC L m m1 p1 a := h1
    have hP1 := PrC_af hP hA1 q2.1 q1.2.1
    have hs1 := PrC_sg hP1
    have hp1 := hP1.2.2.2.2.2
    refine cc_takes (PrC_ok hP1 hn) (by omega) (fun c => ⟨_, rfl, fun c2 => absurd c2 (by decide), fun _ => ?_⟩) fun c => ⟨_, rfl, fun _ => ?_, fun c2 => absurd rfl c2⟩
    · rw [hs1] at c
      have hlt := pkT_lt (T := T) (n := n) (p := p1) (by omega)
      rcases g2 with ⟨c2, _⟩ | ⟨_, b, g2, e⟩
      · exact absurd c c2
      · rw [hP1.2.1]
        have hP2 := PrC_mv hP1 (v := p1 + 1) (by omega) (by omega)
        have hA2 := AfC_m2 (v := p1 + 1) hA1
        rw [PrC_into hP2, Int.toNat_natCast]
        refine ⟨by omega, cc_addV (by omega) hP2 hn hA2 (fun c => absurd c (by decide)) fun m3 hA3 => ⟨_, rfl, ?_⟩⟩
        have hP3 := PrC_af hP hA3 (by rw [List.length_append]; simp only [List.length_cons, List.length_nil]; have := q2.1; omega) (by omega)
        refine hA 0 _ _ _ _ (by omega) g2 _ _ _ hP3 (by omega) (by omega) h66 fun m4 h4 => ⟨rfl, ?_⟩
        cases b with
        | none =>
          have hB : BdC L m m4 p2 := BdC_pre hA3.2.2.2.2.2.2 h4
          subst e
          rw [BdC_into hB, PrC_into hP, Int.toNat_natCast]
          refine ⟨by omega, cc_addB (by omega) hB fun z m5 hB5 => ⟨_, rfl, ?_⟩⟩
          rw [BdC_into hB5, PrC_into hP, Int.toNat_natCast]
          refine ⟨by omega, cc_skip (by omega) (fun _ => ⟨rfl, trivial, hQ m5 hB5⟩) fun c3 c4 => ⟨rfl, trivial, hQ _ ?_⟩⟩
          exact BdC_post hB5 (FrT_up FrT_refl (Or.inr ⟨Or.inr (Or.inr rfl), rfl⟩)) (by rw [up_k (by decide)]; exact hB5.2.1) (up_f (by decide))
        | some b =>
          have hA4 : AfC L m m4 p2 ((a ++ [(2, 0)]) ++ b) := AfC_tr hA3 h4
          have q3 := Rd_f _ _ _ _ _ _ (by omega) g2 (by omega)
          have q4 := q3.2.2 b rfl
          have hP4 := PrC_af hP3 h4 q4.1 q3.2.1
          rw [PrC_into hP4, Int.toNat_natCast]
          refine ⟨by omega, cc_addA (by omega) hP4 hn hA4 (fun c => absurd c (by decide)) fun z m5 hA5 => ⟨_, rfl, ?_⟩⟩
          have hi : m5 4 0 4 = L := by rw [FrT_4 hA5.2.2.2.2.2.2 (by omega)]; exact PrC_into hP
          rw [hi, Int.toNat_natCast]
          have hl : ((a ++ [((2 : Int), (0 : Int))] ++ b ++ [((3 : Int), (0 : Int))]).length : Int) = a.length + 1 + b.length + 1 := by
            simp only [List.length_append, List.length_cons, List.length_nil]; omega
          obtain ⟨a1, a2, a3, a4, a5, a6, a7⟩ := hA5
          rw [hl] at a3
          have hz0 := hP.2.2.2.1
          have hz1 := hP.2.2.2.2.1
          have hx0 := q2.1
          have hx1 := q4.1
          refine ⟨by omega, cc_skip (by omega) (fun c3 => by omega) fun c3 c4 => ⟨rfl, trivial, hQ _ ?_⟩⟩
          subst e
          obtain ⟨d1, d2⟩ := enO_ap a4
          obtain ⟨d3, d4⟩ := enO_ap d1
          obtain ⟨d5, d6⟩ := enO_ap d3
          have l1 : ((a ++ [((2 : Int), (0 : Int))]).length : Int) = a.length + 1 := by simp only [List.length_append, List.length_cons, List.length_nil]; omega
          have l2 : ((a ++ [((2 : Int), (0 : Int))] ++ b).length : Int) = a.length + 1 + b.length := by simp only [List.length_append, List.length_cons, List.length_nil]; omega
          rw [l1] at d4
          rw [l2] at d2
          have e0 : (upM m5 401 L (m 3 L 3 + a.length) (m5 3 L 3)) 400 L = m5 400 L := up_f (by decide)
          have e1 : (upM m5 401 L (m 3 L 3 + a.length) (m5 3 L 3)) 401 L = fun i => if i = m 3 L 3 + a.length then m5 3 L 3 else m5 401 L i := up_e
          have q1a := q2.2
          rw [if_pos (by omega)] at q1a
          have hne : a ≠ [] := fun c => by have := ok_pos q1a; rw [c] at this; simp at this
          refine ⟨?_, ?_, ?_, ?_, ?_, FrT_up a7 (Or.inr ⟨Or.inr (Or.inr rfl), rfl⟩), ?_, ?_⟩
          · rw [up_k (by decide)]; exact a1
          · rw [up_k (by decide)]; exact a2
          · rw [e0, e1, up_k (by decide)]
            unfold enL
            rw [if_neg hne]
            refine ⟨enO_cg (fun i c5 c6 => ?_) d5, d6.1, ?_, enO_cg (fun i c5 c6 => ?_) (by rw [← show m 3 L 3 + (a.length + 1 : Int) = m 3 L 3 + a.length + 1 by omega]; exact d4), ?_, ?_⟩
            · simp only; rw [if_neg (by omega)]; exact ⟨trivial, rfl⟩
            · simp only; rw [if_pos trivial]; omega
            · simp only; rw [if_neg (by omega)]; exact ⟨trivial, rfl⟩
            · rw [show m 3 L 3 + (a.length : Int) + 1 + b.length = m 3 L 3 + (a.length + 1 + b.length) by omega]; exact d2.1
            · show m 3 L 3 + (a.length : Int) + 1 + b.length + 1 = m5 3 L 3
              omega
          · rw [e0, e1]
            intro i c5
            simp only
            rw [if_neg (by omega)]
            exact a5 i c5
          · rw [up_k (by decide)]
            intro c5
            obtain ⟨c6, c7⟩ := a6 c5
            exact ⟨c6, n5_l (n5_l (n5_l c7)), n5_r (n5_l c7)⟩
          · rw [up_k (by decide)]; omega
          · rw [up_k (by decide)]; omega
    · rw [hs1] at c
      rcases g2 with ⟨_, e1, e2⟩ | ⟨c2, _⟩
      · subst e1 e2
        rw [PrC_into hP1, Int.toNat_natCast]
        refine ⟨by omega, cc_addA (by omega) hP1 hn hA1 (fun c => absurd c (by decide)) fun z m5 hA5 => ⟨_, rfl, trivial, hQ m5 ?_⟩⟩
        have hl : ((a ++ [((3 : Int), (0 : Int))]).length : Int) = a.length + 1 := by simp only [List.length_append, List.length_cons, List.length_nil]; omega
        obtain ⟨a1, a2, a3, a4, a5, a6, a7⟩ := hA5
        rw [hl] at a3
        obtain ⟨d1, d2⟩ := enO_ap a4
        have hz0 := hP.2.2.2.1
        have hz1 := hP.2.2.2.2.1
        have hx0 := q2.1
        refine ⟨a1, a2, ?_, a5, fun c5 => ?_, a7, by omega, by omega⟩
        · unfold enL
          rw [if_pos rfl]
          exact ⟨d1, d2.1, show m 3 L 3 + (a.length : Int) + 1 = m5 3 L 3 by omega⟩
        · obtain ⟨c6, c7⟩ := a6 c5
          exact ⟨c6, fun o ho => by simp at ho, n5_l c7⟩
      · exact absurd c2 c
end
