/-! the class reads ranks: by what is left -/
def ndO (o : Int) : Nat := 9 * (6 - o).toNat + 6
def ndR (k : Nat) (o : Int) : Nat := 9 * (6 - o).toNat + 12 - k
def CtA (L : Nat) (T : Int → Int) (n : Int) (f : Nat) : Prop := ∀ (k : Nat) (p o p2 : Int) (res : Option OpL), k ≤ 5 → RdZ T n f k p o p2 res → ∀ (m : AMem) (d : Nat) (Q : Option AV → AMem → Prop), PrC L T n m p → 0 ≤ o → o ≤ 6 → ndR k o ≤ d → (∀ m2, PstC L m m2 p2 res → Q none m2) → MtX yX4_readRank cX4_readRank 5 none d [vr 4 0, vi k, vi o] m Q
def CtB (L : Nat) (T : Int → Int) (n : Int) (f : Nat) : Prop := ∀ (p o p2 : Int) (res : Option OpL), RdZ T n f 5 p o p2 res → ∀ (m : AMem) (d : Nat) (Q : Option AV → AMem → Prop), PrC L T n m p → 0 ≤ o → o ≤ 6 → ndO o ≤ d → (∀ m2, PstC L m m2 p2 res → Q none m2) → MtX yX4_readOperand cX4_readOperand 3 none d [vr 4 0, vi o] m Q
def CtC (L : Nat) (T : Int → Int) (n : Int) (f : Nat) : Prop := ∀ (r : Nat) (p o p2 : Int) (res : Option OpL), r ≤ 4 → RdZ T n f (r + 10) p o p2 res → ∀ (m : AMem) (d : Nat) (Q : Option AV → AMem → Prop) (a3 : Int), PrC L T n m p → 0 ≤ o → o ≤ 6 → ndR r o ≤ d + 1 → 0 ≤ a3 → a3 ≤ p → (∀ m2, PstC L m m2 p2 res → Q none m2) → Y cX4_readRank 5 RX4 (d + 1) none 21 [some (vr 4 0), some (vi r), some (vi o), some (vi a3), none] [] m Q
section
variable {L : Nat} {m m1 m2 : AMem} {T : Int → Int} {n p o p1 p2 : Int} {a b : OpL} {res : Option OpL} {f d : Nat} {Q : Option AV → AMem → Prop}
theorem cA_5 {k : Nat} (hk : k = 5) (hB : CtB L T n f) (h : RdZ T n f k p o p2 res) (hP : PrC L T n m p) (ho : 0 ≤ o) (ho6 : o ≤ 6) (hd : ndR k o ≤ d) (hQ : ∀ m2, PstC L m m2 p2 res → Q none m2) : MtX yX4_readRank cX4_readRank 5 none d [vr 4 0, vi k, vi o] m Q := by
  subst hk
  unfold ndR at hd
  obtain ⟨d, rfl, hd⟩ := dup1 (d := d) (n := 9 * (6 - o).toNat + 6) (by omega)
  exact Y_met rfl 2 rfl (sg_X4_readRank_0 _ _ _ _ ⟨fun c => by omega, fun _ => hB _ _ _ _ h _ _ _ hP ho ho6 (by unfold ndO; omega) fun m2 q => ⟨rfl, trivial, hQ m2 q⟩⟩)
/-- behind a fault no joiner is taken -/
theorem cc_bl {r : Nat} {a3 : Int} (hr : r ≤ 4) (hd : 5 ≤ d) (hO : OkCl m) (hB : BdC L m m2 p2) (h : Q none m2) : Y cX4_readRank 5 RX4 (d + 1) none 21 [some (vr 4 0), some (vi r), some (vi o), some (vi a3), none] [] m2 Q := by
  have hs := BdC_sg hB
  have hj := jof_bd (r := r) hs
  refine sg_X4_readRank_21 _ _ _ _ _ ⟨fun _ => h, fun _ => cc_takesJoiner hr (BdC_ok hB hO) ?_ hd (fun c => by omega) fun _ => ⟨_, rfl, fun c => absurd c (by decide), fun _ => h⟩⟩
  unfold dgt at hs
  omega
theorem cC_step (hT : ∀ i : Int, 0 ≤ i → i < n → 0 ≤ T i ∧ T i ≤ 255) (hn : n ≤ 120) (hA : CtA L T n f) (hC : CtC L T n f) : CtC L T n (f + 1) := by
  intro r p o p2 res hr h m d Q a3 hP ho ho6 hd ha ha2 hQ
  unfold ndR at hd
  have hl := Rd_l h
  have hs := PrC_sg hP
  have hpp := hP.2.2.2.2.2
  have hOk := PrC_ok hP hn
  have fin : jof r (pkT T n p) < 0 → Q none m := by
    intro c
    rcases hl with ⟨_, e1, e2⟩ | ⟨c2, _⟩
    · subst e1 e2
      exact hQ m (AfC_refl hP)
    · omega
  refine sg_X4_readRank_21 _ _ _ _ _ ⟨fun c => fin ?_, fun c => cc_takesJoiner hr hOk ?_ (by omega) (fun c1 => ?_) fun c1 => ⟨_, rfl, fun c => absurd c (by decide), fun _ => fin (by rw [← hs]; exact c1)⟩⟩
  · rw [hP.1.2.1] at c
    have e : pkT T n p = -1 := if_neg (by omega)
    rw [e]
    exact jof_bd (Or.inl rfl)
  · rw [hs]
    by_cases c2 : p < n
    · rw [pkT_T c2]; have := hT p hpp.1 c2; omega
    · have e : pkT T n p = -1 := if_neg c2
      omega
  · rw [hs] at c1 ⊢
    have hlt := jof_lt c1
    have hj := jof_rg r (pkT T n p)
    rw [hP.2.1]
    have hP1 := PrC_mv hP (v := p + 1) (by omega) (by omega)
    have hF1 : FrT L m (upM m 4 0 2 (p + 1)) := FrT_up FrT_refl (Or.inl ⟨rfl, Or.inl rfl⟩)
    refine ⟨_, rfl, fun _ => ?_, fun c => absurd c1 c⟩
    rw [w32n (n := r) (by omega), w32i (z := 6 + jof r (pkT T n p)) (by omega) (by omega), w32i (z := a3 + 1) (by omega) (by omega)]
    rcases hl with ⟨c2, _⟩ | ⟨_, ⟨e, g⟩ | ⟨p1, a, b, g1, g2, e⟩⟩
    · omega
    · subst e
      refine hA _ _ _ _ _ (by omega) g _ _ _ hP1 ho ho6 (by unfold ndR; omega) fun m2 hB => ⟨rfl, ?_⟩
      have hB2 : BdC L m m2 p2 := BdC_pre hF1 hB
      rw [BdC_into hB2, PrC_into hP, Int.toNat_natCast]
      refine ⟨by omega, cc_addB (by omega) hB2 fun z m3 hB3 => ⟨_, rfl, fun _ => Y_fg (by exact ⟨rfl, rfl, rfl, rfl, trivial⟩) (cc_bl hr (by omega) hOk hB3 (hQ m3 hB3)), fun _ => hQ m3 hB3⟩⟩
    · have q1 := Rd_f _ _ _ _ _ _ (by omega) g1 (by omega)
      have q2 := q1.2.2 a rfl
      refine hA _ _ _ _ _ (by omega) g1 _ _ _ hP1 ho ho6 (by unfold ndR; omega) fun m2 hA2 => ⟨rfl, ?_⟩
      have hA2 : AfC L (upM m 4 0 2 (p + 1)) m2 p1 a := hA2
      have hPm := PrC_af hP1 hA2 q2.1 q1.2.1
      have hA3 := AfC_mv hA2
      rw [PrC_into hPm, Int.toNat_natCast]
      refine ⟨by omega, cc_addA (by omega) hPm hn hA3 (fun c => by omega) fun z m3 hA4 => ⟨_, rfl, fun c2 => ?_, fun c2 => ?_⟩⟩
      · have hP4 := PrC_af hP hA4 (by rw [List.length_append]; simp only [List.length_cons, List.length_nil]; have := q2.1; omega) q1.2.1
        rcases g2 with ⟨c3, _⟩ | ⟨_, g2⟩
        · omega
        · refine Y_fg (by exact ⟨rfl, rfl, rfl, rfl, trivial⟩) (hC _ _ _ _ _ hr g2 _ _ _ (a3 + 1) hP4 ho ho6 (by unfold ndR; omega) (by omega) (by have := q1.1; omega) fun m4 h4 => hQ m4 ?_)
          have h5 := PstC_tr hA4 h4
          subst e
          cases b with
          | none => exact h5
          | some b =>
            have h5 : AfC L m m4 p2 ((a ++ [(6 + jof r (pkT T n p), 0)]) ++ b) := h5
            rw [List.append_assoc] at h5
            exact h5
      · rcases g2 with ⟨_, c3, c4⟩ | ⟨c3, _⟩
        · subst c3 c4 e
          exact hQ m3 hA4
        · omega
theorem cA_step (hn : n ≤ 120) (hB : CtB L T n (f + 1)) (hA : CtA L T n f) (hC : CtC L T n f) : CtA L T n (f + 1) := by
  intro k p o p2 res hk h m d Q hP ho ho6 hd hQ
  by_cases h5 : k = 5
  · exact cA_5 h5 hB h hP ho ho6 hd hQ
  · have hr := Rd_r (by omega) h
    have hd0 := hd
    unfold ndR at hd
    obtain ⟨d, rfl, hd⟩ := dup1 (d := d) (n := 9 * (6 - o).toNat + 12 - k - 1) (by omega)
    have hOk := PrC_ok hP hn
    refine Y_met rfl 2 rfl (sg_X4_readRank_0 _ _ _ _ ⟨fun _ => ?_, fun c => by omega⟩)
    rw [w32n (n := k) (by omega)]
    rcases hr with ⟨e, g⟩ | ⟨p1, a, b, g1, g2, e⟩
    · subst e
      exact hA _ _ _ _ _ (by omega) g _ _ _ hP ho ho6 (by unfold ndR; omega) fun m2 hB2 => ⟨rfl, cc_bl (by omega) (by omega) hOk hB2 ⟨trivial, hQ m2 hB2⟩⟩
    · have q1 := Rd_f _ _ _ _ _ _ (by omega) g1 hP.2.2.2.2.2.2
      have q2 := q1.2.2 a rfl
      refine hA _ _ _ _ _ (by omega) g1 _ _ _ hP ho ho6 (by unfold ndR; omega) fun m2 hA2 => ⟨rfl, ?_⟩
      have hA2 : AfC L m m2 p1 a := hA2
      have hPm := PrC_af hP hA2 q2.1 q1.2.1
      refine hC _ _ _ _ _ (by omega) g2 _ _ _ _ hPm ho ho6 (by unfold ndR; omega) (by omega) (by have := q1.1; have := hP.2.2.2.2.2.1; omega) fun m4 h4 => ⟨trivial, hQ m4 ?_⟩
      subst e
      exact PstC_tr hA2 h4
/-- ! or -, and the operand behind it -/
theorem cc_un {x : Int} {b : Option OpL} (hn : n ≤ 120) (hB : CtB L T n f) (hP : PrC L T n m p) (hp : p < n) (h : RdZ T n f 5 (p + 1) o p2 b) (ho : 0 ≤ o) (ho6 : o ≤ 6) (hd : ndO o ≤ d) (hx : x ≠ 1) (hQ : ∀ m2, PstC L m m2 p2 (Option.map (fun a => a ++ [(x, 0)]) b) → Q none m2) :
    MtX yX4_readOperand cX4_readOperand 3 none d [vr 4 0, vi o] (upM m 4 0 2 (p + 1)) (fun r m13 => r = none ∧ (0 ≤ m13 4 0 4 ∧ MtX yX3_add cX3_add 4 (some .int) d [vr 3 (Int.toNat (m13 4 0 4)), vi x, vi 0] m13 (fun r m15 => ∃ x17 : Int, r = some (vi x17) ∧ Q none m15))) := by
  have hpp := hP.2.2.2.2.2
  have hP1 := PrC_mv hP (v := p + 1) (by omega) (by omega)
  have hF1 : FrT L m (upM m 4 0 2 (p + 1)) := FrT_up FrT_refl (Or.inl ⟨rfl, Or.inl rfl⟩)
  refine hB _ _ _ _ h _ _ _ hP1 ho ho6 hd fun m2 h2 => ⟨rfl, ?_⟩
  unfold ndO at hd
  cases b with
  | none =>
    have hB2 : BdC L m m2 p2 := BdC_pre hF1 h2
    rw [BdC_into hB2, PrC_into hP, Int.toNat_natCast]
    exact ⟨by omega, cc_addB (by omega) hB2 fun z m3 hB3 => ⟨_, rfl, hQ m3 hB3⟩⟩
  | some a =>
    have hA2 : AfC L (upM m 4 0 2 (p + 1)) m2 p2 a := h2
    have q1 := Rd_f _ _ _ _ _ _ (by omega) h (by omega)
    have q2 := q1.2.2 a rfl
    have hPm := PrC_af hP1 hA2 q2.1 q1.2.1
    have hA3 := AfC_mv hA2
    rw [PrC_into hPm, Int.toNat_natCast]
    exact ⟨by omega, cc_addA (by omega) hPm hn hA3 (fun c => absurd c hx) fun z m3 hA4 => ⟨_, rfl, hQ m3 hA4⟩⟩
theorem cB_step (hT : ∀ i : Int, 0 ≤ i → i < n → 0 ≤ T i ∧ T i ≤ 255) (hn : n ≤ 120) (hA : CtA L T n f) (hB : CtB L T n f) : CtB L T n (f + 1) := by
  intro p o p2 res h m d Q hP ho ho6 hd hQ
  have hd0 := hd
  unfold ndO at hd
  obtain ⟨d, rfl, hd⟩ := dup1 (d := d) (n := 9 * (6 - o).toNat + 5) (by omega)
  have hO := Rd_o h
  have hs := PrC_sg hP
  have hpp := hP.2.2.2.2.2
  have hOk := PrC_ok hP hn
  have fin : ∀ m2, PstC L m m2 p2 res → (fun r m2 => rk none r ∧ Q r m2) none m2 := fun m2 q => ⟨trivial, hQ m2 q⟩
  -- a name, or nothing that can stand here
  have nm : ¬ dgt (pkT T n p) → (¬ (pkT T n p = 40 ∨ pkT T n p = 33 ∨ pkT T n p = 45) ∨ 6 ≤ o) → MtX yX4_readName cX4_readName 3 none d [vr 4 0] m (fun r m2 => r = none ∧ (rk none none ∧ Q none m2)) := by
    intro c c2
    refine cc_readName hT hP hn (by omega) (fun c3 m2 hA2 => ⟨rfl, fin m2 ?_⟩) (fun c3 m2 hB2 => ⟨rfl, fin m2 ?_⟩)
    · obtain ⟨e1, e2⟩ := RdO_name hO c c3
      subst e1 e2
      exact hA2
    · obtain ⟨e1, e2⟩ := RdO_bad hO c c3 c2
      subst e1 e2
      exact hB2
  have op : (pkT T n p = 40 ∨ pkT T n p = 33 ∨ pkT T n p = 45) → o < 6 → MtX yX4_readOpened cX4_readOpened 2 none d [vr 4 0, vi (w32 (o + 1))] m (fun r m2 => r = none ∧ (rk none none ∧ Q none m2)) := by
    intro c c2
    have hlt := pkT_lt (T := T) (n := n) (p := p) (by omega)
    have hP1 := PrC_mv hP (v := p + 1) (by omega) (by omega)
    have hF1 : FrT L m (upM m 4 0 2 (p + 1)) := FrT_up FrT_refl (Or.inl ⟨rfl, Or.inl rfl⟩)
    obtain ⟨d, rfl, hd⟩ := dup1 (d := d) (n := 9 * (6 - o).toNat + 4) (by omega)
    rw [w32i (by omega) (by omega)]
    refine Y_met rfl 0 rfl (sg_X4_readOpened_0 _ _ _ (cc_takes hOk (by omega) (fun c3 => ⟨_, rfl, fun c => absurd c (by decide), fun _ => ?_⟩) fun c3 => ⟨_, rfl, fun _ => cc_takes hOk (by omega) (fun c4 => ⟨_, rfl, fun c => absurd c (by decide), fun _ => ?_⟩) fun c4 => ⟨_, rfl, fun _ => cc_takes hOk (by omega) (fun c5 => ⟨_, rfl, fun c => absurd c (by decide), fun _ => ?_⟩) fun c5 => by omega, fun c => absurd rfl c⟩, fun c => absurd rfl c⟩))
    · rw [hs] at c3
      rw [hP.2.1]
      rcases RdO_par hO c3 c2 with ⟨e, g⟩ | ⟨p1, a, g, g2⟩
      · subst e
        refine hA 0 _ _ _ _ (by omega) g _ _ _ hP1 (by omega) (by omega) (by unfold ndR; omega) fun m2 h2 => ⟨rfl, ?_⟩
        have hB2 : BdC L m m2 p2 := BdC_pre hF1 h2
        have hg := BdC_sg hB2
        unfold dgt at hg
        exact cc_takes (BdC_ok hB2 hOk) (by omega) (fun c => by omega) fun _ => ⟨_, rfl, fun c => absurd rfl c, fun _ => cc_failB (by omega) hB2 fun m3 hB3 => ⟨rfl, trivial, rfl, fin m3 hB3⟩⟩
      · refine hA 0 _ _ _ _ (by omega) g _ _ _ hP1 (by omega) (by omega) (by unfold ndR; omega) fun m2 h2 => ⟨rfl, ?_⟩
        have hA2 : AfC L (upM m 4 0 2 (p + 1)) m2 p1 a := h2
        have q1 := Rd_f _ _ _ _ _ _ (by omega) g (by omega)
        have q2 := q1.2.2 a rfl
        have hPm := PrC_af hP1 hA2 q2.1 q1.2.1
        have hA3 := AfC_mv hA2
        have hs2 := PrC_sg hPm
        refine cc_takes (PrC_ok hPm hn) (by omega) (fun c4 => ⟨_, rfl, fun _ => ⟨trivial, rfl, fin _ ?_⟩, fun c => absurd c (by decide)⟩) fun c4 => ⟨_, rfl, fun c => absurd rfl c, fun _ => cc_fail (by omega) (fun c => by have := hPm.2.2.1; omega) fun _ => ⟨rfl, trivial, rfl, fin _ ?_⟩⟩
        · rw [hs2] at c4
          rcases g2 with ⟨_, e1, e2⟩ | ⟨c5, _⟩
          · subst e1 e2
            rw [hPm.2.1]
            exact AfC_m2 hA3
          · exact absurd c4 c5
        · rw [hs2] at c4
          rcases g2 with ⟨c5, _⟩ | ⟨_, e1, e2⟩
          · exact absurd c5 c4
          · subst e1 e2
            rw [hPm.2.1]
            exact BdC_pre hA3.2.2.2.2.2.2 (BdC_0 hPm hn)
    · rw [hs] at c4
      rw [hP.2.1]
      obtain ⟨b, g, e⟩ := RdO_un hO (Or.inl c4) c2
      rw [if_pos c4] at e
      refine cc_un (x := 4) (b := b) (Q := fun r m2 => rk none r ∧ r = none ∧ (rk none r ∧ Q r m2)) hn hB hP hlt g (by omega) (by omega) (by unfold ndO; omega) (by decide) fun m2 h2 => ⟨trivial, rfl, fin m2 ?_⟩
      rw [e]
      exact h2
    · rw [hs] at c5 c4
      rw [hP.2.1]
      obtain ⟨b, g, e⟩ := RdO_un hO (Or.inr c5) c2
      rw [if_neg c4] at e
      refine cc_un (x := 5) (b := b) (Q := fun r m2 => rk none r ∧ r = none ∧ (rk none r ∧ Q r m2)) hn hB hP hlt g (by omega) (by omega) (by unfold ndO; omega) (by decide) fun m2 h2 => ⟨trivial, rfl, fin m2 ?_⟩
      rw [e]
      exact h2
  refine Y_met rfl 1 rfl (sg_X4_readOperand_0 _ _ _ (cc_sign hOk (by omega) ⟨_, rfl, cc_isDigit (by omega) (fun c => ⟨_, rfl, fun c => absurd c (by decide), fun _ => ?_⟩) fun c => ⟨_, rfl, fun _ => ?_, fun c => absurd rfl c⟩⟩))
  · rw [hs] at c
    rcases RdO_num hO c with ⟨K, k1, k2, k3, k4, e1, e2⟩ | ⟨k3, e1, e2⟩
    · refine cc_readNumber k2 k3 (Or.inr k4) hP hn (by omega) fun m2 hA2 => ⟨rfl, fin m2 ?_⟩
      subst e1 e2
      exact hA2
    · refine cc_readNumber (K := 4) (by omega) (fun i hi => k3 i (by omega)) (Or.inl rfl) hP hn (by omega) fun m2 hA2 => ⟨rfl, fin m2 ?_⟩
      subst e1 e2
      have q := k3 4 (by omega)
      have ql := dgt_lt q
      rw [pkT_T ql] at q
      obtain ⟨a1, a2, a3, a4, a5, a6, a7⟩ := hA2
      have hz := hP.2.2.2.1
      refine ⟨a7, by omega, ⟨?_, ?_⟩, by omega, Or.inr ⟨a2, a1, ?_, ?_⟩⟩
      · rw [a1]; omega
      · rw [a1]; omega
      · rw [hP.1.2.1]; exact ql
      · rw [hP.1.2.2.2]; exact q
  · rw [hs] at c ⊢
    refine ⟨fun c1 => ⟨fun c2 => nm c (Or.inr c2), fun c2 => op (Or.inl c1) (by omega)⟩, fun c1 => ⟨fun c2 => ⟨fun c3 => nm c (Or.inr c3), fun c3 => op (Or.inr (Or.inl c2)) (by omega)⟩, fun c2 => ⟨fun c3 => nm c (Or.inl (by omega)), fun c3 => ⟨fun c4 => nm c (Or.inr c4), fun c4 => op (Or.inr (Or.inr c3)) (by omega)⟩⟩⟩⟩
theorem cc_rd (hT : ∀ i : Int, 0 ≤ i → i < n → 0 ≤ T i ∧ T i ≤ 255) (hn : n ≤ 120) : ∀ f, CtA L T n f ∧ CtB L T n f ∧ CtC L T n f := by
  intro f
  induction f with
  | zero => exact ⟨fun k p o p2 res _ h => absurd h id, fun p o p2 res h => absurd h id, fun r p o p2 res _ h => absurd h id⟩
  | succ f ih =>
    obtain ⟨hA, hB, hC⟩ := ih
    have hB2 := cB_step hT hn hA hB
    exact ⟨cA_step hn hB2 hA hC, hB2, cC_step hT hn hA hC⟩
end
