/-! the class reads operands and ranks -/
theorem up_w {m : AMem} {k j : Nat} {i v w : Int} : upM (upM m k j i v) k j i w = upM m k j i w := by
  funext k2 j2 i2
  unfold upM
  split
  · split
    · split <;> rfl
    · rfl
  · rfl
theorem nuV_rg {T : Int → Int} {p : Int} : ∀ {k : Nat}, (∀ i : Nat, i < k → dgt (T (p + i))) → 0 ≤ nuV T p k ∧ nuV T p k < (10 : Int) ^ k := by
  intro k
  induction k with
  | zero => intro _; exact ⟨Int.le_refl _, show (0 : Int) < 10 ^ 0 by decide⟩
  | succ k ih =>
    intro h
    have q := ih fun i hi => h i (by omega)
    have g := h k (by omega)
    unfold dgt at g
    rw [Int.pow_succ]
    show 0 ≤ nuV T p k * 10 + T (p + k) - 48 ∧ nuV T p k * 10 + T (p + k) - 48 < 10 ^ k * 10
    generalize (10 : Int) ^ k = z at q
    omega
theorem nuV_9 {T : Int → Int} {p : Int} {k : Nat} (hk : k ≤ 4) (h : ∀ i : Nat, i < k → dgt (T (p + i))) : 0 ≤ nuV T p k ∧ nuV T p k ≤ 9999 := by
  have q := nuV_rg h
  have e : k = 0 ∨ k = 1 ∨ k = 2 ∨ k = 3 ∨ k = 4 := by omega
  rcases e with rfl | rfl | rfl | rfl | rfl <;> omega
theorem w32p {p : Int} {i : Nat} (h0 : 0 ≤ p + i) (h : p + i ≤ 1000) : w32 (p + i + 1) = p + ((i + 1 : Nat) : Int) := (w32i (by omega) (by omega)).trans (by omega)
theorem jof_bd {r : Nat} {t : Int} (h : t = -1 ∨ dgt t) : jof r t < 0 := by
  unfold dgt at h
  unfold jof
  (repeat' split) <;> omega
section
variable {L : Nat} {m m1 m2 : AMem} {T : Int → Int} {n p o p1 p2 : Int} {a b : OpL} {res : Option OpL} {d : Nat} {Q : Option AV → AMem → Prop}
/-! an operand's alternatives -/
theorem RdO_num {R : Nat → Int → Int → Int → Option OpL → Prop} (h : RdO R T n p o p2 res) (c : dgt (pkT T n p)) : (∃ k : Nat, 1 ≤ k ∧ k ≤ 4 ∧ (∀ i : Nat, i < k → dgt (pkT T n (p + i))) ∧ ¬ dgt (pkT T n (p + k)) ∧ p2 = p + k ∧ res = some [(0, nuV T p k)]) ∨
  ((∀ i : Nat, i < 5 → dgt (pkT T n (p + i))) ∧ p2 = p + 4 ∧ res = none) := by
  unfold dgt at c
  rcases h with h | h | ⟨h, _⟩ | ⟨h, _⟩ | ⟨h, _⟩ | ⟨h, _⟩
  · exact Or.inl h
  · exact Or.inr h
  · unfold nmF at h
    exfalso
    revert h
    (repeat' split) <;> omega
  · omega
  · omega
  · exact absurd c h
theorem RdO_nd {R : Nat → Int → Int → Int → Option OpL → Prop} (h : RdO R T n p o p2 res) (c : ¬ dgt (pkT T n p)) : (0 ≤ nmF (pkT T n p) ∧ p2 = p + 1 ∧ res = some [(1, nmF (pkT T n p))]) ∨
  (pkT T n p = 40 ∧ o < 6 ∧ ((res = none ∧ R 0 (p + 1) (o + 1) p2 none) ∨ ∃ p1 a, R 0 (p + 1) (o + 1) p1 (some a) ∧ ((pkT T n p1 = 41 ∧ p2 = p1 + 1 ∧ res = some a) ∨ (¬ pkT T n p1 = 41 ∧ p2 = p1 ∧ res = none)))) ∨
  ((pkT T n p = 33 ∨ pkT T n p = 45) ∧ o < 6 ∧ ∃ b, R 5 (p + 1) (o + 1) p2 b ∧ res = Option.map (fun a => a ++ [(if pkT T n p = 33 then 4 else 5, 0)]) b) ∨
  (¬ dgt (pkT T n p) ∧ nmF (pkT T n p) < 0 ∧ (¬ (pkT T n p = 40 ∨ pkT T n p = 33 ∨ pkT T n p = 45) ∨ 6 ≤ o) ∧ p2 = p ∧ res = none) := by
  have z : p + ((0 : Nat) : Int) = p := by omega
  rcases h with ⟨k, h1, h2, h3, _⟩ | ⟨h3, _⟩ | h | h | h | h
  · have q := h3 0 (by omega)
    rw [z] at q
    exact absurd q c
  · have q := h3 0 (by omega)
    rw [z] at q
    exact absurd q c
  · exact Or.inl h
  · exact Or.inr (Or.inl h)
  · exact Or.inr (Or.inr (Or.inl h))
  · exact Or.inr (Or.inr (Or.inr h))
theorem nm_op {t : Int} (h : t = 40 ∨ t = 33 ∨ t = 45) : nmF t = -1 := by
  rcases h with rfl | rfl | rfl <;> decide
theorem RdO_name {R : Nat → Int → Int → Int → Option OpL → Prop} (h : RdO R T n p o p2 res) (c : ¬ dgt (pkT T n p)) (c2 : 0 ≤ nmF (pkT T n p)) : p2 = p + 1 ∧ res = some [(1, nmF (pkT T n p))] := by
  rcases RdO_nd h c with h | h | h | h
  · exact h.2
  · have := nm_op (Or.inl h.1); omega
  · have := nm_op (Or.inr h.1); omega
  · omega
theorem RdO_bad {R : Nat → Int → Int → Int → Option OpL → Prop} (h : RdO R T n p o p2 res) (c : ¬ dgt (pkT T n p)) (c2 : nmF (pkT T n p) < 0) (c3 : ¬ (pkT T n p = 40 ∨ pkT T n p = 33 ∨ pkT T n p = 45) ∨ 6 ≤ o) : p2 = p ∧ res = none := by
  rcases RdO_nd h c with h | h | h | h
  · omega
  · have := h.1; have := h.2.1; omega
  · have := h.1; have := h.2.1; omega
  · exact h.2.2.2
theorem nd_op {t : Int} (h : t = 40 ∨ t = 33 ∨ t = 45) : ¬ dgt t := by unfold dgt; omega
theorem RdO_par {R : Nat → Int → Int → Int → Option OpL → Prop} (h : RdO R T n p o p2 res) (c : pkT T n p = 40) (ho : o < 6) : (res = none ∧ R 0 (p + 1) (o + 1) p2 none) ∨ ∃ p1 a, R 0 (p + 1) (o + 1) p1 (some a) ∧ ((pkT T n p1 = 41 ∧ p2 = p1 + 1 ∧ res = some a) ∨ (¬ pkT T n p1 = 41 ∧ p2 = p1 ∧ res = none)) := by
  rcases RdO_nd h (nd_op (Or.inl c)) with h | h | h | h
  · have := nm_op (Or.inl c); omega
  · exact h.2.2
  · have := h.1; omega
  · have := h.2.2.1; omega
theorem RdO_un {R : Nat → Int → Int → Int → Option OpL → Prop} (h : RdO R T n p o p2 res) (c : pkT T n p = 33 ∨ pkT T n p = 45) (ho : o < 6) : ∃ b, R 5 (p + 1) (o + 1) p2 b ∧ res = Option.map (fun a => a ++ [(if pkT T n p = 33 then 4 else 5, 0)]) b := by
  rcases RdO_nd h (nd_op (Or.inr c)) with h | h | h | h
  · have := nm_op (Or.inr c); omega
  · have := h.1; omega
  · exact h.2.2
  · have := h.2.2.1; omega
/-! what the class leaves, put together -/
theorem PstC_tr (h : AfC L m m1 p1 a) {b : Option OpL} (h2 : PstC L m1 m2 p2 b) : PstC L m m2 p2 (Option.map (a ++ ·) b) := by
  cases b with
  | none => exact BdC_pre h.2.2.2.2.2.2 h2
  | some b => exact AfC_tr h h2
theorem PrC_into (h : PrC L T n m p) : m 4 0 4 = L := h.1.2.2.1
theorem cc_failB (hd : 1 ≤ d) (hB : BdC L m m2 p2) (h : ∀ m3, BdC L m m3 p2 → Q none m3) : MtX yX4_fail cX4_fail 1 none d [vr 4 0] m2 Q := by
  refine cc_fail hd (fun _ => h _ hB) (fun c => h _ ?_)
  obtain ⟨b1, b2, b3, b4, b5⟩ := hB
  have e : m2 4 0 2 = p2 := by
    rcases b5 with b5 | b5
    · omega
    · exact b5.2.1
  refine ⟨FrT_up b1 (Or.inl ⟨rfl, Or.inr rfl⟩), ?_, ?_, b4, Or.inl (by rw [up_s]; exact e)⟩
  · rw [up_k (by decide)]; exact b2
  · rw [up_i (by decide)]; exact b3
/-- a step behind a fault -/
theorem cc_addB {x y : Int} (hd : 1 ≤ d) (hB : BdC L m m2 p2) (h : ∀ z m3, BdC L m m3 p2 → Q (some (vi z)) m3) : MtX yX3_add cX3_add 4 (some .int) d [vr 3 L, vi x, vi y] m2 Q :=
  cc_addG hd hB.2.1 fun z m3 h1 h2 h3 => h z m3 (BdC_post hB h1 h2 h3)
theorem cc_addA {x y : Int} (hd : 1 ≤ d) (hP : PrC L T n m2 p2) (hn : n ≤ 120) (hA : AfC L m m2 p2 a) (hx : x = 1 → y ≠ 5) (h : ∀ z m3, AfC L m m3 p2 (a ++ [(x, y)]) → Q (some (vi z)) m3) : MtX yX3_add cX3_add 4 (some .int) d [vr 3 L, vi x, vi y] m2 Q := by
  obtain ⟨_, b5, b6, b7, b8, b9, b10⟩ := hP
  exact cc_stp hd b7 (by omega) (h _ _ (AfC_ad hA hx))
theorem num_le (hP : PrC L T n m p) : ∀ {i : Nat}, (∀ j : Nat, j < i → dgt (pkT T n (p + j))) → p + i ≤ n := by
  intro i h
  cases i with
  | zero => have := hP.2.2.2.2.2.2; omega
  | succ i => have := dgt_lt (h i (by omega)); omega
theorem cc_num {K : Nat} (hK : K ≤ 4) (hdg : ∀ i : Nat, i < K → dgt (pkT T n (p + i))) (hend : K = 4 ∨ ¬ dgt (pkT T n (p + K))) (hP : PrC L T n m p) (hn : n ≤ 120) (hd : 1 ≤ d) (h : ∀ m2, AfC L m m2 (p + K) [(0, nuV T p K)] → Q none m2) :
    ∀ (j i : Nat), i + j = K → Y cX4_readNumber 3 RX4 (d + 1) none 4 [some (vr 4 0), some (vi (nuV T p i)), some (vi i)] [] (upM m 4 0 2 (p + i)) Q := by
  have hq : ∀ i : Nat, i ≤ K → PrC L T n (upM m 4 0 2 (p + i)) (p + i) := fun i hi => PrC_mv hP (by omega) (num_le hP fun j hj => hdg j (by omega))
  have eT : ∀ i : Nat, i < K → pkT T n (p + i) = T (p + i) := fun i hi => pkT_T (dgt_lt (hdg i hi))
  intro j
  induction j with
  | zero =>
    intro i hi
    obtain rfl : i = K := by omega
    have g : 0 ≤ (upM m 4 0 2 (p + i)) 4 0 4 ∧ MtX yX3_add cX3_add 4 (some .int) d [vr 3 (Int.toNat ((upM m 4 0 2 (p + i)) 4 0 4)), vi 0, vi (nuV T p i)] (upM m 4 0 2 (p + i)) (fun r m2 => ∃ x4 : Int, r = some (vi x4) ∧ Q none m2) := by
      rw [PrC_into (hq i (by omega)), Int.toNat_natCast]
      refine ⟨by omega, cc_addA hd (hq i (by omega)) hn (AfC_m2 (AfC_refl hP)) (fun c => absurd c (by decide)) fun z m3 hA => ⟨_, rfl, h m3 hA⟩⟩
    refine sg_X4_readNumber_4 _ _ _ _ ⟨fun _ => g, fun c => cc_sign (PrC_ok (hq i (by omega)) hn) hd ⟨_, rfl, cc_isDigit hd (fun q => ?_) fun _ => ⟨_, rfl, fun _ => g, fun c => absurd rfl c⟩⟩⟩
    rw [PrC_sg (hq i (by omega))] at q
    rcases hend with e | e
    · omega
    · exact absurd q e
  | succ j ih =>
    intro i hi
    have hs := PrC_sg (hq i (by omega))
    refine sg_X4_readNumber_4 _ _ _ _ ⟨fun c => by omega, fun _ => cc_sign (PrC_ok (hq i (by omega)) hn) hd ⟨_, rfl, cc_isDigit hd (fun _ => ⟨_, rfl, fun c => absurd c (by decide), fun _ => cc_sign (PrC_ok (hq i (by omega)) hn) hd ⟨_, rfl, ?_⟩⟩) fun q => ?_⟩⟩
    · have r1 := nuV_9 (T := T) (p := p) (k := i) (by omega) (fun j hj => by rw [← eT j (by omega)]; exact hdg j (by omega))
      have r2 := hdg i (by omega)
      have r3 := (hq i (by omega)).2.2.2.2.2
      rw [hs, up_w, up_s, eT i (by omega)]
      rw [eT i (by omega)] at r2
      unfold dgt at r2
      have e1 : w32 (w32 (w32 (nuV T p i * 10) + T (p + i)) - 48) = nuV T p (i + 1) := by
        rw [w32i (z := nuV T p i * 10) (by omega) (by omega), w32i (z := nuV T p i * 10 + T (p + i)) (by omega) (by omega), w32i (by omega) (by omega)]
        rfl
      have e2 : w32 (((i : Nat) : Int) + 1) = ((i + 1 : Nat) : Int) := w32n (by omega)
      have e3 : w32 (p + i + 1) = p + ((i + 1 : Nat) : Int) := w32p r3.1 (Int.le_trans r3.2 (Int.le_trans hn (by decide)))
      rw [e1, e2, e3]
      exact ih (i + 1) (by omega)
    · rw [hs] at q
      exact absurd (hdg i (by omega)) q
theorem cc_readNumber {K : Nat} (hK : K ≤ 4) (hdg : ∀ i : Nat, i < K → dgt (pkT T n (p + i))) (hend : K = 4 ∨ ¬ dgt (pkT T n (p + K))) (hP : PrC L T n m p) (hn : n ≤ 120) (hd : 2 ≤ d) (h : ∀ m2, AfC L m m2 (p + K) [(0, nuV T p K)] → Q none m2) : MtX yX4_readNumber cX4_readNumber 3 none d [vr 4 0] m Q := by
  obtain ⟨d, rfl, hd⟩ := dup1 hd
  refine Y_met rfl 2 rfl (sg_X4_readNumber_0 _ _ ?_)
  have q := cc_num (L := L) (m := m) (d := d) (Q := fun r m2 => rk none r ∧ Q r m2) hK hdg hend hP hn (by omega) (fun m2 hA => ⟨trivial, h m2 hA⟩) K 0 (by omega)
  rwa [up_id (by rw [hP.2.1]; omega)] at q
/-- a name that asks for neighbours, and the mark -/
theorem AfC_a5 {x y : Int} (h : AfC L m m2 p2 a) : AfC L m (upM (upM (upM (upM m2 400 L (m2 3 L 3) x) 401 L (m2 3 L 3) y) 3 L 3 (m2 3 L 3 + 1)) 3 L 4 1) p2 (a ++ [(x, y)]) := by
  obtain ⟨a1, a2, a3, a4, a5, a6, a7⟩ := h
  have hl : ((a ++ [(x, y)]).length : Int) = a.length + 1 := by rw [List.length_append]; simp
  have e0 : (upM (upM (upM (upM m2 400 L (m2 3 L 3) x) 401 L (m2 3 L 3) y) 3 L 3 (m2 3 L 3 + 1)) 3 L 4 1) 400 L = fun i => if i = m2 3 L 3 then x else m2 400 L i := by
    rw [up_f (by decide), up_f (by decide), up_f (by decide), up_e]
  have e1 : (upM (upM (upM (upM m2 400 L (m2 3 L 3) x) 401 L (m2 3 L 3) y) 3 L 3 (m2 3 L 3 + 1)) 3 L 4 1) 401 L = fun i => if i = m2 3 L 3 then y else m2 401 L i := by
    rw [up_f (by decide), up_f (by decide), up_e, up_f (by decide)]
  refine ⟨?_, ?_, ?_, ?_, ?_, ?_, ?_⟩
  · rw [up_k (by decide), up_k (by decide), up_k (by decide), up_k (by decide)]; exact a1
  · rw [up_k (by decide), up_k (by decide), up_k (by decide), up_k (by decide)]; exact a2
  · rw [up_i (by decide), up_s]; omega
  · rw [e0, e1]
    refine enO_mk (enO_cg (fun i c c2 => ?_) a4) ⟨?_, ?_, trivial⟩
    · rw [if_neg (by omega), if_neg (by omega)]; exact ⟨rfl, rfl⟩
    · simp only; rw [if_pos (by omega)]
    · simp only; rw [if_pos (by omega)]
  · rw [e0, e1]
    intro i c
    simp only
    rw [if_neg (by omega), if_neg (by omega)]
    exact a5 i c
  · rw [up_s]
    intro c
    exact absurd c (by decide)
  · exact FrT_up (FrT_up (FrT_up (FrT_up a7 (Or.inr ⟨Or.inr (Or.inl rfl), rfl⟩)) (Or.inr ⟨Or.inr (Or.inr rfl), rfl⟩)) (Or.inr ⟨Or.inl rfl, rfl⟩)) (Or.inr ⟨Or.inl rfl, rfl⟩)
theorem cc_readName (hT : ∀ i : Int, 0 ≤ i → i < n → 0 ≤ T i ∧ T i ≤ 255) (hP : PrC L T n m p) (hn : n ≤ 120) (hd : 5 ≤ d) (h1 : 0 ≤ nmF (pkT T n p) → ∀ m2, AfC L m m2 (p + 1) [(1, nmF (pkT T n p))] → Q none m2) (h2 : nmF (pkT T n p) < 0 → ∀ m2, BdC L m m2 p → Q none m2) : MtX yX4_readName cX4_readName 3 none d [vr 4 0] m Q := by
  obtain ⟨d, rfl, hd⟩ := dup1 hd
  have hs := PrC_sg hP
  have hb := BdC_0 hP hn
  have bad : nmF (pkT T n p) < 0 → MtX yX4_fail cX4_fail 1 none d [vr 4 0] m (fun r m13 => r = none ∧ (rk none none ∧ Q none m13)) := fun c => cc_fail (by omega) (fun q => by have := hP.2.2.1; omega) fun _ => ⟨rfl, trivial, h2 c _ (by rw [hP.2.1]; exact hb)⟩
  refine Y_met rfl 2 rfl (sg_X4_readName_0 _ _ (cc_sign (PrC_ok hP hn) (by omega) ⟨_, rfl, fun c => ?_, fun c => ⟨fun c2 => absurd c2 (by decide), fun _ => bad ?_⟩⟩))
  · rw [hs] at c ⊢
    have hl := pkT_lt (T := T) (n := n) (p := p) (by omega)
    have ht := hT p hP.2.2.2.2.2.1 hl
    rw [← pkT_T hl (T := T)] at ht
    refine cc_ixa ht.1 ht.2 (by omega) ⟨_, rfl, fun c2 => ?_, fun c2 => bad (by omega)⟩
    have hp := hP.2.2.2.2.2
    have e : w32 (m 4 0 2 + 1) = p + 1 := by rw [hP.2.1, w32i (by omega) (by omega)]
    rw [PrC_into hP, Int.toNat_natCast, e]
    have hP2 := PrC_mv hP (v := p + 1) (by omega) (by omega)
    refine ⟨by omega, ?_⟩
    obtain ⟨_, b5, b6, b7, b8, b9, b10⟩ := hP2
    have hA := AfC_m2 (v := p + 1) (AfC_refl hP)
    refine cc_stp (by omega) b7 (by omega) ⟨_, rfl, fun c3 => ⟨trivial, h1 c2 _ (AfC_ad hA fun _ => c3)⟩, fun _ => ⟨?_, trivial, h1 c2 _ ?_⟩⟩
    · rw [up_k (by decide), up_k (by decide), up_k (by decide), up_i (by decide), PrC_into hP]; omega
    · rw [show Int.toNat ((upM (upM (upM (upM m 4 0 2 (p + 1)) 400 L ((upM m 4 0 2 (p + 1)) 3 L 3) 1) 401 L ((upM m 4 0 2 (p + 1)) 3 L 3) (nmF (pkT T n p))) 3 L 3 ((upM m 4 0 2 (p + 1)) 3 L 3 + 1)) 4 0 4) = L by rw [up_k (by decide), up_k (by decide), up_k (by decide), up_i (by decide), PrC_into hP, Int.toNat_natCast]]
      exact AfC_a5 hA
  · have e : pkT T n p = -1 := by
      unfold pkT at hs ⊢
      split
      · rename_i hl
        rw [if_pos hl] at hs
        have := hT p hP.2.2.2.2.2.1 hl
        omega
      · rfl
    rw [e]
    decide
end
