/-! findBest and findTouch of the class, and what the search remembers -/
section
variable {W : Nat → Int} {D : Nat → Int → Int}
theorem fd_ini {x : Int} {f g : Int → Int} : ∀ (c : Nat) {i : Nat}, (fdS W D c i (x, f)).1 = (fdS W D c i (x, g)).1 ∧ (x < (fdS W D c i (x, f)).1 → (fdS W D c i (x, f)).2 = (fdS W D c i (x, g)).2) := by
  intro c
  induction c with
  | zero => intro i; exact ⟨rfl, fun h => absurd h (Int.lt_irrefl _)⟩
  | succ c ih =>
    intro i
    rw [fdS_s, fdS_s]
    show (fdS W D c (i + 1) (if x < W i then (W i, D i) else (x, f))).1 = (fdS W D c (i + 1) (if x < W i then (W i, D i) else (x, g))).1 ∧ (x < (fdS W D c (i + 1) (if x < W i then (W i, D i) else (x, f))).1 → (fdS W D c (i + 1) (if x < W i then (W i, D i) else (x, f))).2 = (fdS W D c (i + 1) (if x < W i then (W i, D i) else (x, g))).2)
    by_cases h : x < W i
    · rw [if_pos h, if_pos h]
      exact ⟨rfl, fun _ => rfl⟩
    · rw [if_neg h, if_neg h]
      exact ih
end
section
variable {d : Nat} {p s : StR} {L : Option LnL}
def iniW (who : Int) : Int := if who = -1 then -1000 else 0
def bNx (who : Int) (p : StR) (L : Option LnL) (n : Nat) (f : Int → Int) : BsT := fdS (wW who p L n) (dD n) (5 ^ n) 0 (iniW who, f)
theorem cc_prepare {m : AMem} {n : Nat} {who : Int} {Q : Option AV → AMem → Prop} (hp : OkPa p) (hi : OkIn p) (hH : HalfC m p L) (hB : BasC m p) (h11 : m 2 0 4 = p 11) (h : ∀ m2, FrM wSe m m2 → seO m2 p L who n → RepC m2 1 p (iniS p) → bsC m2 (iniW who, fun i => m 902 0 i) → (m2 8 0 7 = 1 ∧ m2 8 0 8 = m 2 0 6) → Q none m2) : MtX yX8_prepare cX8_prepare 4 none (d + 3) [vr 8 0, vr 2 0, vi n, vi who] m Q := by
  have t1 : Int.toNat (0 + 1) = 1 := by decide
  have fin : ∀ x e : Int, x = iniW who → e = eW who p → MtX yX7_begin cX7_begin 2 none (d + 2) [vr 7 (Int.toNat (0 + 1)), vr 2 0] (upM (upM (upM (upM (upM (upM m 8 0 7 1) 8 0 8 (m 2 0 6)) 8 0 6 who) 8 0 5 n) 8 0 3 x) 8 0 4 e) (fun r m3 => r = none ∧ (rk none none ∧ Q none m3)) := by
    intro x e hx he
    rw [t1]
    have hF0 : FrM [8] m (upM (upM (upM (upM (upM (upM m 8 0 7 1) 8 0 8 (m 2 0 6)) 8 0 6 who) 8 0 5 n) 8 0 3 x) 8 0 4 e) := FrM_uk (FrM_uk (FrM_uk (FrM_uk (FrM_uk (FrM_uk (FrM_refl _ _) (by decide) (by decide)) (by decide) (by decide)) (by decide) (by decide)) (by decide) (by decide)) (by decide) (by decide)) (by decide) (by decide)
    have hB0 : BasC (upM (upM (upM (upM (upM (upM m 8 0 7 1) 8 0 8 (m 2 0 6)) 8 0 6 who) 8 0 5 n) 8 0 3 x) 8 0 4 e) p := BasC_fr hF0 (by decide) hB
    refine cc_begin hp hB0 fun m2 hF hR => ⟨rfl, trivial, ?_⟩
    have hF2 : FrM wSe m m2 := FrM_trans (FrM_mono hF0 (by decide)) (FrM_mono (FrS_M hF) (by decide))
    have e8 : ∀ q, m2 8 0 q = upM (upM (upM (upM (upM (upM m 8 0 7 1) 8 0 8 (m 2 0 6)) 8 0 6 who) 8 0 5 n) 8 0 3 x) 8 0 4 e 8 0 q := fun q => FrS_n hF (by decide) (by decide)
    refine h m2 hF2 ⟨HalfC_fr hF2 (by decide) hH, (FrM_n hF2 (by decide) (by decide)).trans h11, ?_, ?_, ?_⟩ hR ⟨?_, fun i i0 i1 => ?_⟩ ⟨?_, ?_⟩
    · rw [e8]; simp [upM]
    · rw [e8, ← he]; simp [upM]
    · rw [e8]; simp [upM]
    · rw [e8, ← hx]; simp [upM]
    · show m2 902 0 i = m 902 0 i
      rw [FrS_n hF (by decide) (by decide)]
      exact FrM_n hF0 (by decide) (by decide)
    · rw [e8]; simp [upM]
    · rw [e8]; simp [upM]
  have e4 : ∀ x : Int, upM (upM (upM (upM (upM m 8 0 7 1) 8 0 8 (m 2 0 6)) 8 0 6 who) 8 0 5 n) 8 0 3 x 2 0 4 = p 11 := fun x => by simp [upM, h11]
  refine Y_met rfl 0 rfl (sg_X8_prepare_0 _ _ _ _ ⟨fun c => ⟨fun _ => ⟨by decide, fin 0 1 ?_ ?_⟩, fun c2 => absurd c2 c⟩, fun c => ⟨fun c2 => absurd c c2, fun _ => cc_bitCount ?_ ?_ ⟨_, rfl, by decide, fin (-1000) _ ?_ ?_⟩⟩⟩)
  · exact (if_neg c).symm
  · exact (if_neg c).symm
  · have := hp.2.2.1
    simp [upM, h11]
    exact this
  · have := hp.2.2.2
    simp [upM, h11]
    exact this
  · exact (if_pos c).symm
  · unfold eW
    rw [if_pos c]
    simp [upM, h11]
theorem cc_srch {m : AMem} {n : Nat} {who : Int} {G : AMem → Prop} (hp : OkPa p) (hi : OkIn p) (hn : 1 ≤ n ∧ n ≤ 5) (hw : who = -1 ∨ (0 ≤ who ∧ who < 7)) (hH : HalfC m p L) (hB : BasC m p) (h11 : m 2 0 4 = p 11) (h : ∀ m2, FrM wSe m m2 → (m2 8 0 7 = 1 ∧ m2 8 0 8 = m 2 0 6 ∧ m2 8 0 6 = who ∧ m2 8 0 5 = n) → bsC m2 (bNx who p L n fun i => m 902 0 i) → G m2) : MtX yX8_prepare cX8_prepare 4 none (d + 16) [vr 8 0, vr 2 0, vi n, vi who] m (fun r m5 => r = none ∧ MtX yX8_explore cX8_explore 4 none (d + 16) [vr 8 0, vr 2 0, vi 0] m5 (fun r m7 => r = none ∧ G m7)) := by
  have h14 := hi.2.2.1
  refine cc_prepare (L := L) hp hi hH hB h11 fun m2 hF hO hR hB2 h78 => ⟨rfl, ?_⟩
  have ex := cc_explore (L := L) (n := n) (who := who) hp hi hn.2 hw n 0 0 (d := d + 2 * (5 - n)) (m := m2) (b := (iniW who, fun i => m 902 0 i)) (Q := fun r m7 => r = none ∧ G m7) (by omega) (by omega) hO (fun j j0 j1 => by omega) hR (ini_26 (p := p)) (by omega) hB2 (fun c => by show 0 ≤ iniW who; unfold iniW; rw [if_neg c]; decide) fun m3 hF3 hB3 => ⟨rfl, ?_⟩
  · rw [show d + 2 * (5 - n) + 2 * n + 6 = d + 16 by omega] at ex
    exact ex
  · have k8 : ∀ q : Int, q ≠ 3 → m3 8 0 q = m2 8 0 q := fun q hq => hF3 8 0 q (Or.inr (Or.inr (Or.inl ⟨rfl, hq⟩)))
    rw [Nat.zero_mul] at hB3
    refine h m3 (FrM_trans hF (FrX_M hF3)) ⟨?_, ?_, ?_, ?_⟩ hB3
    · rw [k8 7 (by decide)]; exact h78.1
    · rw [k8 8 (by decide)]; exact h78.2
    · rw [k8 6 (by decide)]; exact hO.2.2.1
    · rw [k8 5 (by decide)]; exact hO.2.2.2.2
/-- what the search remembers is so -/
def cashS (m : AMem) (p : StR) (L : Option LnL) : Prop :=
  (m 8 0 6 = -1 ∧ ∃ n : Nat, (1 ≤ n ∧ n ≤ 5) ∧ m 8 0 5 = n ∧ ∃ f, bsC m (bNx (-1) p L n f)) ∨
  ((0 ≤ m 8 0 6 ∧ m 8 0 6 < 7) ∧ ((m 8 0 3 = 1 ∧ ∃ n : Nat, (1 ≤ n ∧ n ≤ 5) ∧ m 8 0 5 = n ∧ (∃ f, bsC m (bNx (m 8 0 6) p L n f)) ∧ ∀ (k : Nat) (f : Int → Int), 1 ≤ k → k < n → (bNx (m 8 0 6) p L k f).1 = 0) ∨
    (m 8 0 3 = 0 ∧ ∀ (k : Nat) (f : Int → Int), 1 ≤ k → k ≤ 5 → (bNx (m 8 0 6) p L k f).1 = 0)))
def InvSr (m : AMem) (p : StR) (L : Option LnL) : Prop := m 8 0 8 ≤ m 2 0 6 ∧ (m 8 0 7 ≠ 0 → m 8 0 8 = m 2 0 6 → cashS m p L)
theorem cc_isFound {m : AMem} {who : Int} {Q : Option AV → AMem → Prop} (h : ∀ y : Int, (y = 1 ∧ m 8 0 7 ≠ 0 ∧ m 8 0 8 = m 2 0 6 ∧ m 8 0 6 = who ∨ y = 0) → Q (some (vi y)) m) : MtX yX8_isFound cX8_isFound 3 (some .boolean) (d + 1) [vr 8 0, vr 2 0, vi who] m Q :=
  Y_met rfl 0 rfl (sg_X8_isFound_0 _ _ _ ⟨fun c => ⟨Or.inl rfl, h _ (Or.inr rfl)⟩, fun c => ⟨fun c2 => ⟨Or.inl rfl, h _ (Or.inr rfl)⟩, fun c2 => ⟨fun c3 => ⟨Or.inl rfl, h _ (Or.inr rfl)⟩, fun c3 => ⟨Or.inr rfl, h _ (Or.inl ⟨rfl, c, c2, c3⟩)⟩⟩⟩⟩)
theorem cc_findBest {m : AMem} {n : Nat} {Q : Option AV → AMem → Prop} (hp : OkPa p) (hi : OkIn p) (hn : 1 ≤ n ∧ n ≤ 5) (hH : HalfC m p L) (hB : BasC m p) (h11 : m 2 0 4 = p 11) (hS : InvSr m p L) (h : ∀ m2, FrM wSe m m2 → InvSr m2 p L → (∃ f, bsC m2 (bNx (-1) p L n f)) → Q none m2) : MtX yX8_findBest cX8_findBest 3 none (d + 17) [vr 8 0, vr 2 0, vi n] m Q := by
  have new : ∀ m2, FrM wSe m m2 → (m2 8 0 7 = 1 ∧ m2 8 0 8 = m 2 0 6 ∧ m2 8 0 6 = -1 ∧ m2 8 0 5 = n) → bsC m2 (bNx (-1) p L n fun i => m 902 0 i) → rk none none ∧ Q none m2 := by
    intro m2 hF h8 hB2
    have e2 : m2 2 0 6 = m 2 0 6 := FrM_n hF (by decide) (by decide)
    exact ⟨trivial, h m2 hF ⟨by omega, fun _ _ => Or.inl ⟨h8.2.2.1, n, hn, h8.2.2.2, _, hB2⟩⟩ ⟨_, hB2⟩⟩
  refine Y_met rfl 0 rfl (sg_X8_findBest_0 _ _ _ (cc_isFound fun y hy => ⟨y, rfl, fun c => ?_, fun c => ⟨fun c2 => ⟨trivial, ?_⟩, fun c2 => ?_⟩⟩))
  · exact cc_srch hp hi hn (Or.inl rfl) hH hB h11 new
  · rcases hy with q | q
    · have ca := hS.2 q.2.1 q.2.2.1
      rcases ca with ⟨_, k, hk, hk5, f, hf⟩ | ⟨g, _⟩
      · have e : k = n := by omega
        subst e
        exact h m (FrM_refl _ _) hS ⟨f, hf⟩
      · omega
    · exact absurd q c
  · exact cc_srch hp hi hn (Or.inl rfl) hH hB h11 new
end
