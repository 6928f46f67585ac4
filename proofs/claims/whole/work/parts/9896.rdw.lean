/-! the class reads a whole text -/
def TxC (L : Nat) (T : Int → Int) (n : Int) (mS m : AMem) (ls : LnL) (p : Int) : Prop := (m 4 0 4 = L ∧ m 4 0 1 = n ∧ m 4 0 4 = L ∧ m 500 0 = T) ∧ (m 4 0 2 = p ∧ m 4 0 3 = -1) ∧ (0 ≤ m 3 L 3 ∧ m 3 L 3 ≤ p + 1 ∧ 0 ≤ p ∧ p ≤ n) ∧ enL (m 400 L) (m 401 L) 0 ls (m 3 L 3) ∧ okL ls ∧ (m 3 L 4 = 0 → n5L ls) ∧ FrT L mS m
def FrV (L : Nat) (m m2 : AMem) : Prop := ∀ k j i, k ≠ 4 → ¬ ((k = 3 ∨ k = 400 ∨ k = 401) ∧ j = L) → m2 k j i = m k j i
theorem okL_app {a b : LnL} (h : okL a) (h2 : okL b) : okL (a ++ b) := fun q hq => by
  rcases List.mem_append.mp hq with hq | hq
  · exact h q hq
  · exact h2 q hq
theorem enL_pos {f g : Int → Int} {q : OpL × OpL} {r : LnL} {x e : Int} (h : enL f g x (q :: r) e) : x < e := by
  obtain ⟨t, b⟩ := q
  unfold enL at h
  split at h
  · have := enL_le h.2.2; omega
  · have := enL_le h.2.2.2.2.2; omega
section
variable {L : Nat} {mS m m1 m2 : AMem} {T : Int → Int} {n p p1 p2 : Int} {ls : LnL} {q : OpL × OpL} {f d : Nat} {Q : Option AV → AMem → Prop}
theorem TxC_ln (hP : PrC L T n m1 p) (he : enL (m1 400 L) (m1 401 L) 0 ls (m1 3 L 3)) (ho : okL ls) (h5 : m1 3 L 4 = 0 → n5L ls) (hF : FrT L mS m1) (hL : LnC L m1 m2 p2 q) (hq : okL [q]) (h1 : p ≤ p2) (h2 : p2 ≤ n) : TxC L T n mS m2 (ls ++ [q]) p2 := by
  obtain ⟨⟨b1, b2, b3, b4⟩, b5, b6, b7, b8, b9, b10⟩ := hP
  obtain ⟨a1, a2, a3, a4, a5, a6, a7, a8⟩ := hL
  refine ⟨⟨by rw [FrT_4 a6 (by omega)]; exact b1, by rw [FrT_4 a6 (by omega)]; exact b2, by rw [FrT_4 a6 (by omega)]; exact b3, ?_⟩, ⟨a1, a2⟩, ⟨a7, a8, by omega, h2⟩, enL_app (enL_cg (fun i _ c => a4 i c) he) a3, okL_app ho hq, fun c => ?_, FrT_trans hF a6⟩
  · rw [← b4]
    funext i
    exact FrT_n a6 (by decide) (by decide) (by decide) (by decide)
  · obtain ⟨c1, c2, c3⟩ := a5 c
    intro r hr
    rcases List.mem_append.mp hr with hr | hr
    · exact h5 c1 r hr
    · rw [List.mem_singleton] at hr
      subst hr
      exact ⟨c2, c3⟩
theorem TxC_pr (h : TxC L T n mS m ls p) (hl : p < n) : PrC L T n (upM m 4 0 2 (p + 1)) (p + 1) ∧ enL ((upM m 4 0 2 (p + 1)) 400 L) ((upM m 4 0 2 (p + 1)) 401 L) 0 ls ((upM m 4 0 2 (p + 1)) 3 L 3) ∧ ((upM m 4 0 2 (p + 1)) 3 L 4 = 0 → n5L ls) ∧ FrT L mS (upM m 4 0 2 (p + 1)) := by
  obtain ⟨⟨b1, b2, b3, b4⟩, ⟨b5, b6⟩, ⟨b7, b8, b9, b10⟩, b11, b12, b13, b14⟩ := h
  refine ⟨⟨⟨?_, ?_, ?_, ?_⟩, up_s, ?_, ?_, ?_, by omega, by omega⟩, ?_, ?_, FrT_up b14 (Or.inl ⟨rfl, Or.inl rfl⟩)⟩
  · rw [up_i (by decide)]; exact b1
  · rw [up_i (by decide)]; exact b2
  · rw [up_i (by decide)]; exact b3
  · rw [up_f (by decide)]; exact b4
  · rw [up_i (by decide)]; exact b6
  · rw [up_k (by decide)]; exact b7
  · rw [up_k (by decide)]; exact b8
  · rw [up_f (by decide), up_f (by decide), up_k (by decide)]; exact b11
  · rw [up_k (by decide)]; exact b13
/-- behind a fault nothing more is read, and it is told -/
theorem cc_rdB (hd : 1 ≤ d) (hB : BdC L m m2 p2) (hn : m 4 0 1 = n) (h : ∀ m3, FrT L m m3 → Q (some (vi p2)) m3) : (((m2 4 0 1) ≤ (m2 4 0 2) → (Q (some (vi (m2 4 0 3))) m2)) ∧ (¬ (m2 4 0 1) ≤ (m2 4 0 2) → (MtX yX4_fail cX4_fail 1 none d [vr 4 0] m2 (fun r m3 => r = none ∧ (Q (some (vi (m3 4 0 3))) m3))))) := by
  obtain ⟨b1, b2, b3, b4, b5⟩ := hB
  have e1 : m2 4 0 1 = n := by rw [FrT_4 b1 (by omega)]; exact hn
  refine ⟨fun c => ?_, fun c => cc_fail hd (fun c2 => ⟨rfl, ?_⟩) fun c2 => ⟨rfl, ?_⟩⟩
  · rcases b5 with b5 | ⟨_, b6, b7, _⟩
    · rw [b5]; exact h m2 b1
    · omega
  · rcases b5 with b5 | ⟨b5, _⟩
    · rw [b5]; exact h m2 b1
    · omega
  · rcases b5 with b5 | ⟨b5, b6, b7, _⟩
    · omega
    · rw [up_s, b6]
      exact h _ (FrT_up b1 (Or.inl ⟨rfl, Or.inr rfl⟩))
theorem cc_rdL (hT : ∀ i : Int, 0 ≤ i → i < n → 0 ≤ T i ∧ T i ≤ 255) (hn : n ≤ 120) (hd : 67 ≤ d) : ∀ (f : Nat) (p p2 : Int) (b : Option LnL), RdS T n f p p2 b → ∀ (m : AMem) (ls : LnL) (a4 : Int), TxC L T n mS m ls p → 0 ≤ a4 → a4 ≤ p →
    (b = none ∨ p2 < n → ∀ m2, FrT L mS m2 → Q (some (vi p2)) (upM m2 4 0 1 0)) → (∀ x, b = some x → ¬ p2 < n → ∀ m2, TxC L T n mS m2 (ls ++ x) p2 → Q (some (vi (-1))) (upM m2 4 0 1 0)) →
    Y cX4_read 2 RX4 (d + 1) none 23 [some (vr 4 0), some (vi a4)] [] m Q := by
  intro f
  induction f with
  | zero => intro p p2 b h; exact absurd h id
  | succ f ih =>
    intro p p2 b h m ls a4 hX ha ha2 h1 h2
    have hX0 := hX
    obtain ⟨⟨b1, b2, b3, b4⟩, ⟨b5, b6⟩, ⟨b7, b8, b9, b10⟩, b11, b12, b13, b14⟩ := hX0
    have hOk : OkCl m := ⟨by omega, by omega, by omega, by omega⟩
    have hs : sgC m = pkT T n p := by
      unfold sgC
      rw [if_pos (by omega), b4, b2, b5]
    have fin : ¬ pkT T n p = 59 → (((m 4 0 1) ≤ (m 4 0 2) → (Q (some (vi (m 4 0 3))) (upM m 4 0 1 0))) ∧ (¬ (m 4 0 1) ≤ (m 4 0 2) → (MtX yX4_fail cX4_fail 1 none d [vr 4 0] m (fun r m3 => r = none ∧ (Q (some (vi (m3 4 0 3))) (upM m3 4 0 1 0)))))) := by
      intro c
      rcases RdS_1 h with ⟨_, e1, e2⟩ | ⟨c2, _⟩
      · subst e1 e2
        refine ⟨fun c3 => ?_, fun c3 => cc_fail (by omega) (fun c4 => by omega) fun _ => ⟨rfl, ?_⟩⟩
        · rw [b6]
          exact h2 [] rfl (by omega) m (by rw [List.append_nil]; exact hX)
        · rw [up_s, b5]
          exact h1 (Or.inr (by omega)) _ (FrT_up b14 (Or.inl ⟨rfl, Or.inr rfl⟩))
      · exact absurd c2 c
    refine sg_X4_read_23 _ _ _ ⟨fun c => fin fun c2 => ?_, fun c => cc_takes hOk (by omega) (fun c2 => ⟨_, rfl, fun c3 => absurd c3 (by decide), fun _ => ?_⟩) fun c2 => ⟨_, rfl, fun _ => fin (by rw [← hs]; exact c2), fun c3 => absurd rfl c3⟩⟩
    · have := pkT_lt (T := T) (n := n) (p := p) (by omega)
      omega
    · rw [hs] at c2
      have hl := pkT_lt (T := T) (n := n) (p := p) (by omega)
      rw [b5]
      obtain ⟨hP, hE, h5, hF⟩ := TxC_pr hX hl
      rcases RdS_1 h with ⟨c3, _⟩ | ⟨_, ⟨e, g⟩ | ⟨p1, q, x, g, g2, e⟩⟩
      · exact absurd c2 c3
      · subst e
        refine cc_readLine hT hn g hP (by omega) fun m2 hB => ⟨rfl, ?_⟩
        have hB : BdC L (upM m 4 0 2 (p + 1)) m2 p2 := hB
        have hB2 : BdC L mS m2 p2 := BdC_pre hF hB
        have eb := cc_rdB (d := d) (Q := fun r mm => Q r (upM mm 4 0 1 0)) (by omega) hB2 rfl fun m3 h3 => h1 (Or.inl rfl) m3 h3
        have hg := BdC_sg hB
        unfold dgt at hg
        exact sg_X4_read_23 _ _ _ ⟨fun _ => eb, fun _ => cc_takes (BdC_ok hB (PrC_ok hP hn)) (by omega) (fun c => by omega) fun _ => ⟨_, rfl, fun _ => eb, fun c => absurd rfl c⟩⟩
      · have hf := RdN_f g (by omega)
        refine cc_readLine hT hn g hP (by omega) fun m2 hL => ⟨rfl, ?_⟩
        have hL : LnC L (upM m 4 0 2 (p + 1)) m2 p1 q := hL
        have hX2 := TxC_ln hP hE b12 h5 hF hL (hf.2.2 q rfl).1 hf.1 hf.2.1
        rw [w32i (z := a4 + 1) (by omega) (by omega)]
        refine ih _ _ _ g2 m2 _ (a4 + 1) hX2 (by omega) (by have := hf.1; omega) (fun c => h1 ?_) fun y hy c m3 h3 => ?_
        · rcases c with c | c
          · left; rw [e, c]; rfl
          · exact Or.inr c
        · subst hy
          rw [List.append_assoc] at h3
          exact h2 (q :: y) e c m3 h3
theorem cc_rdAll (hT : ∀ i : Int, 0 ≤ i → i < n → 0 ≤ T i ∧ T i ≤ 255) (hn0 : 0 ≤ n) (hn : n ≤ 120) {res : Option LnL} (h : RdT T n f p2 res) (hm : m 500 0 = T) (hm1 : m 4 0 1 = n) (h44 : m 4 0 4 = L) (hd : 68 ≤ d) (h1 : res = none ∨ p2 < n → ∀ m2, FrV L m m2 → m2 4 0 4 = L → m2 4 0 1 = 0 → Q (some (vi p2)) m2)
    (h2 : ∀ x, res = some x → ¬ p2 < n → ∀ m2, FrV L m m2 → m2 4 0 4 = L → m2 4 0 1 = 0 → 0 < m2 3 L 3 → m2 3 L 3 ≤ 121 → enL (m2 400 L) (m2 401 L) 0 x (m2 3 L 3) → okL x → (m2 3 L 4 = 0 → n5L x) → Q (some (vi (-1))) m2) : MtX yX4_read cX4_read 2 (some .int) d [vr 4 0] m Q := by
  obtain ⟨d, rfl, hd⟩ := dup1 hd
  obtain ⟨e1, he1, _⟩ := dup1 (d := d) (n := 0) (by omega)
  refine Y_met rfl 1 rfl (sg_X4_read_0 _ _ ⟨by omega, ?_⟩)
  rw [h44, Int.toNat_natCast]
  have clr : ∀ {m : AMem} {Q : Option AV → AMem → Prop}, Q none (upM (upM m 3 L 3 0) 3 L 4 0) → MtX yX3_clear cX3_clear 1 none d [vr 3 L] m Q := by
    intro m Q hq
    subst he1
    exact Y_met rfl 0 rfl (sg_X3_clear_0 _ _ _ ⟨trivial, hq⟩)
  refine clr ⟨rfl, ?_⟩
  generalize hmS : upM (upM (upM (upM m 4 0 2 0) 4 0 3 (-1)) 3 L 3 0) 3 L 4 0 = mS
  have hF : FrV L m mS := by
    subst hmS
    intro k j i c c2
    have h3 : ∀ {mm : AMem} {x v : Int}, (upM mm 3 L x v) k j i = mm k j i := by
      intro mm x v
      by_cases e : k = 3
      · subst e
        exact up_j fun e2 => c2 ⟨Or.inl rfl, e2⟩
      · exact up_k e
    rw [h3, h3, up_k c, up_k c]
  have hFV : ∀ {m3 : AMem}, FrT L mS m3 → FrV L m (upM m3 4 0 1 0) := fun h3 k j i c c2 => (up_k c).trans ((h3 k j i (fun q => c q.1) c2).trans (hF k j i c c2))
  have h4V : ∀ {m3 : AMem}, FrT L mS m3 → (upM m3 4 0 1 0) 4 0 4 = L := fun h3 => by
    rw [up_i (by decide), FrT_4 h3 (by omega)]
    subst hmS
    rw [up_k (by decide), up_k (by decide), up_i (by decide), up_i (by decide)]
    exact h44
  have hs3 : mS 3 L 3 = 0 := by subst hmS; rw [up_i (by decide), up_s]
  have hP : PrC L T n mS 0 := by
    subst hmS
    refine ⟨⟨?_, ?_, ?_, ?_⟩, ?_, ?_, by rw [hs3]; omega, by rw [hs3]; omega, by omega, hn0⟩
    · rw [up_k (by decide), up_k (by decide), up_i (by decide), up_i (by decide)]; exact h44
    · rw [up_k (by decide), up_k (by decide), up_i (by decide), up_i (by decide)]; exact hm1
    · rw [up_k (by decide), up_k (by decide), up_i (by decide), up_i (by decide)]; exact h44
    · rw [up_f (by decide), up_f (by decide), up_f (by decide), up_f (by decide)]; exact hm
    · rw [up_k (by decide), up_k (by decide), up_i (by decide), up_s]
    · rw [up_k (by decide), up_k (by decide), up_s]
  rcases h with ⟨e, g⟩ | ⟨p1, q, x, g, g2, e⟩
  · subst e
    refine cc_readLine hT hn g hP (by omega) fun m2 hB => ⟨rfl, ?_⟩
    have hB : BdC L mS m2 p2 := hB
    have eb := cc_rdB (d := d) (Q := fun r m2 => rk (some .int) r ∧ Q r (upM m2 4 0 1 0)) (by omega) hB rfl fun m3 h3 => ⟨trivial, h1 (Or.inl rfl) _ (hFV h3) (h4V h3) up_s⟩
    have hg := BdC_sg hB
    unfold dgt at hg
    exact sg_X4_read_23 _ _ _ ⟨fun _ => eb, fun _ => cc_takes (BdC_ok hB (PrC_ok hP hn)) (by omega) (fun c => by omega) fun _ => ⟨_, rfl, fun _ => eb, fun c => absurd rfl c⟩⟩
  · have hf := RdN_f g hn0
    refine cc_readLine hT hn g hP (by omega) fun m2 hL => ⟨rfl, ?_⟩
    have hL : LnC L mS m2 p1 q := hL
    have hX := TxC_ln (ls := []) (mS := mS) hP (show (0 : Int) = mS 3 L 3 from hs3.symm) (fun q hq => by simp at hq) (fun _ q hq => by simp at hq) FrT_refl hL (hf.2.2 q rfl).1 hf.1 hf.2.1
    refine cc_rdL hT hn (by omega) _ _ _ _ g2 m2 _ 0 hX (by omega) hf.1 (fun c m3 h3 => ⟨trivial, h1 ?_ _ (hFV h3) (h4V h3) up_s⟩) fun y hy c m3 h3 => ⟨trivial, ?_⟩
    · rcases c with c | c
      · left; rw [e, c]; rfl
      · exact Or.inr c
    · subst hy
      obtain ⟨c1, c2, c3, c4, c5, c6, c7⟩ := h3
      refine h2 (q :: y) e c _ (hFV c7) (h4V c7) up_s ?_ ?_ ?_ c5 ?_
      · rw [up_k (by decide)]; exact enL_pos c4
      · rw [up_k (by decide)]; omega
      · rw [up_f (by decide), up_f (by decide), up_k (by decide)]; exact c4
      · rw [up_k (by decide)]; exact c6
end
