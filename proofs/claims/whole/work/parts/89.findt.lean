/-! findTouch of the class -/
section
variable {d : Nat} {p s : StR} {L : Option LnL}
theorem fd_01 {W : Nat → Int} {D : Nat → Int → Int} (hW : ∀ i, W i = 0 ∨ W i = 1) : ∀ (c : Nat) {i : Nat} {b : BsT}, (b.1 = 0 ∨ b.1 = 1) → ((fdS W D c i b).1 = 0 ∨ (fdS W D c i b).1 = 1) := by
  intro c
  induction c with
  | zero => intro i b h; exact h
  | succ c ih =>
    intro i b h
    rw [fdS_s]
    refine ih ?_
    split
    · exact hW i
    · exact h
theorem bN_01 {who : Int} {n : Nat} {f : Int → Int} (hw : who ≠ -1) : (bNx who p L n f).1 = 0 ∨ (bNx who p L n f).1 = 1 := by
  refine fd_01 (fun i => ?_) _ ?_
  · unfold wW wV
    rw [if_neg hw]
    split
    · exact Or.inr rfl
    · exact Or.inl rfl
  · show iniW who = 0 ∨ iniW who = 1
    unfold iniW
    rw [if_neg hw]
    exact Or.inl rfl
theorem bN_f {who : Int} {n : Nat} {f g : Int → Int} : (bNx who p L n f).1 = (bNx who p L n g).1 := (fd_ini _).1
def noT (who : Int) (p : StR) (L : Option LnL) (n : Nat) : Prop := ∀ (k : Nat) (f : Int → Int), 1 ≤ k → k < n → (bNx who p L k f).1 = 0
def tSp (who : Int) (p : StR) (L : Option LnL) (x : Int) : Prop := (x = 0 ∧ noT who p L 6) ∨ ∃ n : Nat, (1 ≤ n ∧ n ≤ 5) ∧ x = n ∧ (∀ f, (bNx who p L n f).1 = 1) ∧ noT who p L n
def stT (st : Int) (mm : AMem) (who : Int) (p : StR) (L : Option LnL) (k : Nat) : Prop := (k = 0 ∧ mm 8 0 3 = 0) ∨ (1 ≤ k ∧ (mm 8 0 7 = 1 ∧ mm 8 0 8 = st ∧ mm 8 0 6 = who ∧ mm 8 0 5 = k) ∧ ∃ f, bsC mm (bNx who p L k f))
theorem cc_findTouch {m : AMem} {who : Int} {Q : Option AV → AMem → Prop} (hp : OkPa p) (hi : OkIn p) (hw : 0 ≤ who ∧ who < 7) (hH : HalfC m p L) (hB : BasC m p) (h11 : m 2 0 4 = p 11) (hS : InvSr m p L) (h : ∀ x m2, FrM wSe m m2 → InvSr m2 p L → tSp who p L x → (∀ n : Nat, x = n → 0 < n → ∃ f, bsC m2 (bNx who p L n f)) → Q (some (vi x)) m2) : MtX yX8_findTouch cX8_findTouch 4 (some .int) (d + 17) [vr 8 0, vr 2 0, vi who] m Q := by
  have hw1 : who ≠ -1 := by omega
  have found : ∀ (k : Nat) (mm : AMem), k ≤ 5 → FrM wSe m mm → noT who p L k → stT (m 2 0 6) mm who p L k → mm 8 0 3 = 1 → Q (some (vi (mm 8 0 5))) mm := by
    intro k mm hk hF hz hst c1
    have e2 : mm 2 0 6 = m 2 0 6 := FrM_n hF (by decide) (by decide)
    rcases hst with ⟨_, c3⟩ | ⟨k1, h8, f, hf⟩
    · omega
    · have b1 : (bNx who p L k f).1 = 1 := by rw [← hf.1]; exact c1
      have all1 : ∀ g, (bNx who p L k g).1 = 1 := fun g => (bN_f (f := g) (g := f)).trans b1
      refine h _ mm hF ⟨by omega, fun _ _ => Or.inr ⟨by omega, Or.inl ⟨c1, k, by omega, h8.2.2.2, ?_, ?_⟩⟩⟩ (Or.inr ⟨k, by omega, h8.2.2.2, all1, hz⟩) fun n hn hn0 => ?_
      · rw [h8.2.2.1]; exact ⟨f, hf⟩
      · rw [h8.2.2.1]; exact hz
      · have : n = k := by omega
        subst this
        exact ⟨f, hf⟩
  have zero : ∀ (mm : AMem), FrM wSe m mm → noT who p L 5 → stT (m 2 0 6) mm who p L 5 → mm 8 0 3 = 0 → Q (some (vi 0)) mm := by
    intro mm hF hz hst c0
    have e2 : mm 2 0 6 = m 2 0 6 := FrM_n hF (by decide) (by decide)
    rcases hst with ⟨k0, _⟩ | ⟨k1, h8, f, hf⟩
    · omega
    · have b0 : (bNx who p L 5 f).1 = 0 := by rw [← hf.1]; exact c0
      have al : ∀ (q : Nat) (g : Int → Int), 1 ≤ q → q ≤ 5 → (bNx who p L q g).1 = 0 := fun q g q0 q1 => by
        by_cases e : q = 5
        · subst e; exact (bN_f (f := g) (g := f)).trans b0
        · exact hz q g q0 (by omega)
      exact h 0 mm hF ⟨by omega, fun _ _ => Or.inr ⟨by omega, Or.inr ⟨c0, by rw [h8.2.2.1]; exact al⟩⟩⟩ (Or.inl ⟨rfl, fun q g q0 q1 => al q g q0 (by omega)⟩) fun n hn hn0 => by omega
  have v01 : ∀ (k : Nat) (mm : AMem), stT (m 2 0 6) mm who p L k → mm 8 0 3 = 0 ∨ mm 8 0 3 = 1 := by
    intro k mm hst
    rcases hst with ⟨_, c3⟩ | ⟨k1, h8, f, hf⟩
    · exact Or.inl c3
    · rw [hf.1]; exact bN_01 hw1
  have loop : ∀ (r k : Nat) (mm : AMem), k + r = 5 → FrM wSe m mm → noT who p L k → stT (m 2 0 6) mm who p L k → Y cX8_findTouch 4 RX8 (d + 17) none 16 [some (vr 8 0), some (vr 2 0), some (vi who), some (vi ((k + 1 : Nat) : Int))] [] mm (fun r mem2 => rk (some .int) r ∧ Q r mem2) := by
    intro r
    induction r with
    | zero =>
      intro k mm hk hF hz hst
      have e : k = 5 := by omega
      subst e
      have v := v01 5 mm hst
      exact sg_X8_findTouch_16 _ _ _ _ ⟨fun _ => ⟨fun c => ⟨trivial, zero mm hF hz hst (by omega)⟩, fun c => ⟨trivial, found 5 mm (by decide) hF hz hst c⟩⟩, fun c => by omega⟩
    | succ r ih =>
      intro k mm hk hF hz hst
      have v := v01 k mm hst
      have e2 : mm 2 0 6 = m 2 0 6 := FrM_n hF (by decide) (by decide)
      refine sg_X8_findTouch_16 _ _ _ _ ⟨fun c => by omega, fun _ => ⟨fun c => ⟨fun c2 => by omega, fun c2 => ⟨trivial, found k mm (by omega) hF hz hst c2⟩⟩, fun c0 => ?_⟩⟩
      have hz2 : noT who p L (k + 1) := fun q g q0 q1 => by
        by_cases e : q = k
        · rcases hst with ⟨k0, _⟩ | ⟨k1, h8, f, hf⟩
          · omega
          · subst e
            have b0 : (bNx who p L q f).1 = 0 := by rw [← hf.1]; exact c0
            exact (bN_f (f := g) (g := f)).trans b0
        · exact hz q g q0 (by omega)
      rw [w32n (by omega)]
      refine cc_srch hp hi (by omega) (Or.inr hw) (HalfC_fr hF (by decide) hH) (BasC_fr hF (by decide) hB) ((FrM_n hF (by decide) (by decide)).trans h11) fun m7 hF7 h8 hB7 => ?_
      rw [e2] at h8
      exact ih (k + 1) m7 (by omega) (FrM_trans hF hF7) hz2 (Or.inr ⟨by omega, h8, _, hB7⟩)
  refine Y_met rfl 1 rfl (sg_X8_findTouch_0 _ _ _ (cc_isFound fun y hy => ⟨y, rfl, fun c => ?_, fun c => ?_⟩))
  · rcases hy with q | q
    · have ca := hS.2 q.2.1 q.2.2.1
      rcases ca with ⟨g, _⟩ | ⟨g, ⟨c1, k, hk, hk5, hf, hz⟩ | ⟨c0, al⟩⟩
      · omega
      · rw [q.2.2.2] at hf hz
        obtain ⟨f, hf⟩ := hf
        have b1 : (bNx who p L k f).1 = 1 := by rw [← hf.1]; exact c1
        refine ⟨fun c2 => absurd c1 c2, fun _ => ⟨trivial, h _ m (FrM_refl _ _) hS (Or.inr ⟨k, hk, hk5, fun g => (bN_f (f := g) (g := f)).trans b1, hz⟩) fun n hn hn0 => ?_⟩⟩
        have : n = k := by omega
        subst this
        exact ⟨f, hf⟩
      · rw [q.2.2.2] at al
        exact ⟨fun _ => ⟨trivial, h 0 m (FrM_refl _ _) hS (Or.inl ⟨rfl, fun q g q0 q1 => al q g q0 (by omega)⟩) fun n hn hn0 => by omega⟩, fun c2 => by omega⟩
    · exact absurd q c
  · have := loop 5 0 (upM m 8 0 3 0) (by decide) (FrM_uk (FrM_refl _ _) (by decide) (by decide)) (fun q g q0 q1 => by omega) (Or.inl ⟨rfl, up_s⟩)
    exact this
end
