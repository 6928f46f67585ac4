/-! the search: going back, and what a raid of few told moves comes to -/
section
variable {p s : StR} {L : Option LnL}
def twoM : Int → Int := fun _ => 2
theorem mv2_21 (h : 0 ≤ s 21) : s1S s 2 21 = if 0 < s 21 then s 21 - 1 else 0 := by
  unfold s1S
  rw [upS_n (by decide), upS_n (by decide)]
  unfold mvR
  rw [if_neg (by decide), if_pos rfl]
  split
  · rw [upS_s]
  · omega
theorem sec2_1 (h : s 21 = 1) : secS p L s 2 26 = 1 := by
  have e := mv2_21 (s := s) (by omega)
  rw [if_pos (by omega)] at e
  unfold secS
  rw [if_pos ⟨by omega, by omega⟩, upS_s]
theorem s1S_26 {v : Int} : s1S s v 26 = s 26 := by
  unfold s1S
  rw [upS_n (by decide), upS_n (by decide), mvR_k (by decide) (by decide)]
theorem sec2_n (hp : OkPa p) (h : s 21 ≠ 1) (h0 : 0 ≤ s 21) (h26 : s 26 = 0) : (secS p L s 2 26 = 0 ∨ secS p L s 2 26 = 2) ∧ secS p L s 2 21 = if 0 < s 21 then s 21 - 1 else 0 := by
  have e := mv2_21 (s := s) h0
  have e1 : s3S p L s 2 21 = s1S s 2 21 := (s3S_k hp (by decide) (by decide) (by decide)).trans (s2S_k (by decide) (by decide) (by decide))
  have e2 : s3S p L s 2 26 = 0 := (s3S_26 hp).trans h26
  unfold secS
  rw [if_neg (by rw [e]; split <;> omega)]
  split
  · refine ⟨Or.inl ?_, ?_⟩
    · rw [upS_n (by decide)]; exact e2
    · rw [upS_n (by decide), e1]; exact e
  · refine ⟨Or.inr upS_s, ?_⟩
    rw [upS_n (by decide), upS_n (by decide), e1]; exact e
theorem run2_end (hp : OkPa p) : ∀ (r : Nat) {s : StR}, s 21 = r → 0 < r → ¬ runF p L twoM r s 26 = 0 := by
  intro r
  induction r with
  | zero => intro s _ h; exact absurd h (by decide)
  | succ r ih =>
    intro s h _
    rw [runF_s]
    split
    · rename_i c
      show ¬ runF p L twoM r (secS p L s 2) 26 = 0
      cases r with
      | zero =>
        show ¬ secS p L s 2 26 = 0
        rw [sec2_1 (by omega)]
        decide
      | succ r =>
        obtain ⟨_, h2⟩ := sec2_n (L := L) hp (s := s) (by omega) (by omega) c
        rw [if_pos (by omega)] at h2
        exact ih (by rw [h2]; omega) (by omega)
    · assumption
theorem run2_not (hp : OkPa p) : ∀ (k : Nat) {s : StR}, 0 ≤ s 21 → (s 21 = 0 ∨ (k : Int) < s 21) → s 26 ≠ 1 → runF p L twoM k s 26 ≠ 1 := by
  intro k
  induction k with
  | zero => intro s _ _ h; exact h
  | succ k ih =>
    intro s h0 h h1
    rw [runF_s]
    split
    · rename_i c
      show runF p L twoM k (secS p L s 2) 26 ≠ 1
      obtain ⟨g1, g2⟩ := sec2_n (L := L) hp (s := s) (by omega) h0 c
      refine ih ?_ ?_ (by omega)
      · rw [g2]; split <;> omega
      · rw [g2]; split <;> omega
    · exact h1
theorem runF_add {mv : Int → Int} {b : Nat} : ∀ (a : Nat) {s : StR}, runF p L mv (a + b) s = runF p L mv b (runF p L mv a s) := by
  intro a
  induction a with
  | zero => intro s; rw [Nat.zero_add]; rfl
  | succ a ih =>
    intro s
    rw [show a + 1 + b = (a + b) + 1 by omega, runF_s, runF_s]
    by_cases c : s 26 = 0
    · rw [if_pos c, if_pos c]
      exact ih
    · rw [if_neg c, if_neg c, runF_e c]
theorem runF_st {mv : Int → Int} {a k : Nat} (h : ¬ runF p L mv a s 26 = 0) (hk : a ≤ k) : runF p L mv k s = runF p L mv a s := by
  obtain ⟨b, rfl⟩ : ∃ b, k = a + b := ⟨k - a, by omega⟩
  rw [runF_add, runF_e h]
theorem runF_cg2 (hp : OkPa p) {mv mv2 : Int → Int} : ∀ (k : Nat) {s : StR}, (∀ j : Int, s 22 ≤ j → j < s 22 + k → mv j = mv2 j) → runF p L mv k s = runF p L mv2 k s := by
  intro k
  induction k with
  | zero => intro s _; rfl
  | succ k ih =>
    intro s h
    rw [runF_s, runF_s, h (s 22) (by omega) (by omega)]
    split
    · refine ih fun j j0 j1 => h j ?_ ?_
      · rw [secS_22 hp] at j0; omega
      · rw [secS_22 hp] at j1; omega
    · rfl
theorem runF_22 (hp : OkPa p) {mv : Int → Int} : ∀ (k : Nat) {s : StR}, runF p L mv k s 26 = 0 → runF p L mv k s 22 = s 22 + k := by
  intro k
  induction k with
  | zero => intro s _; show s 22 = s 22 + ((0 : Nat) : Int); omega
  | succ k ih =>
    intro s h
    rw [runF_s] at h ⊢
    by_cases c : s 26 = 0
    · rw [if_pos c] at h ⊢
      rw [ih h, secS_22 hp]
      omega
    · rw [if_neg c] at h
      exact absurd h c
def cbS (p : StR) (L : Option LnL) (s : StR) : StR := if s 26 = 0 then (if s 21 = 0 then upS s 26 3 else if s 21 ≤ p 14 - s 22 then runF p L twoM 8 s else upS s 26 3) else s
def sEq (s t : StR) : Prop := s = t ∨ (¬ s 26 = 1 ∧ ¬ t 26 = 1)
theorem los_1 (h : s 26 ≠ 1) : losS s 26 ≠ 1 := by
  unfold losS
  split
  · rw [upS_s]; decide
  · exact h
theorem cb_E (hp : OkPa p) (hs : OkSt p s) (h22 : s 22 ≤ p 14) (h26 : s 26 = 0) : sEq (losS (runF p L twoM (p 14 - s 22).toNat s)) (cbS p L s) := by
  have hr := hs.2.2.1
  unfold cbS
  rw [if_pos h26]
  by_cases c : s 21 = 0
  · rw [if_pos c]
    exact Or.inr ⟨los_1 (run2_not hp _ (by omega) (Or.inl c) (by omega)), by rw [upS_s]; decide⟩
  · rw [if_neg c]
    by_cases c2 : s 21 ≤ p 14 - s 22
    · rw [if_pos c2]
      have e := run2_end (L := L) hp (s 21).toNat (s := s) (by omega) (by omega)
      rw [runF_st (k := (p 14 - s 22).toNat) e (by omega), runF_st (k := 8) e (by omega), losS_id e]
      exact Or.inl rfl
    · rw [if_neg c2]
      exact Or.inr ⟨los_1 (run2_not hp _ (by omega) (Or.inr (by omega)) (by omega)), by rw [upS_s]; decide⟩
/-- a raid of n told moves, then home -/
def mvQ (n : Int) (mv : Int → Int) : Int → Int := fun j => if j < n then mv j else 2
def gmS (p : StR) (L : Option LnL) (n : Int) (mv : Int → Int) : StR := losS (runF p L (mvQ n mv) (p 14).toNat (iniS p))
theorem ini_22 : iniS p 22 = 0 := ini_o (by decide)
theorem ini_26 : iniS p 26 = 0 := ini_o (by decide)
theorem leaf_E (hp : OkPa p) (hi : OkIn p) {mv : Int → Int} {n : Int} {k : Nat} (hk : (k : Int) ≤ n) (hk2 : (k : Int) ≤ p 14) (h : ¬ runF p L mv k (iniS p) 26 = 0 ∨ (k : Int) = p 14 ∨ (k : Int) = n) : sEq (gmS p L n mv) (cbS p L (runF p L mv k (iniS p))) := by
  have h14 := hi.2.2.1
  have e1 : runF p L (mvQ n mv) k (iniS p) = runF p L mv k (iniS p) := runF_cg2 hp k fun j j0 j1 => by
    rw [ini_22] at j0 j1
    exact if_pos (by omega)
  have e2 : gmS p L n mv = losS (runF p L (mvQ n mv) ((p 14).toNat - k) (runF p L mv k (iniS p))) := by
    unfold gmS
    rw [← e1, ← runF_add, show k + ((p 14).toNat - k) = (p 14).toNat by omega]
  have ok := runF_ok (L := L) (mv := mv) hp k (iniS p) (okS_ini hp hi) (by rw [ini_22]; decide) (by rw [ini_22]; omega)
  rw [e2]
  by_cases c : runF p L mv k (iniS p) 26 = 0
  · have h22 := runF_22 hp k c
    rw [ini_22] at h22
    generalize runF p L mv k (iniS p) = S at *
    by_cases c2 : (k : Int) = p 14
    · rw [show (p 14).toNat - k = 0 by omega]
      refine Or.inl ?_
      show losS S = cbS p L S
      unfold losS cbS
      rw [if_pos c, if_pos c]
      have := ok.1.2.2.1
      split
      · rfl
      · rw [if_neg (by omega)]
    · have c3 : (k : Int) = n := by omega
      have e3 : runF p L (mvQ n mv) ((p 14).toNat - k) S = runF p L twoM ((p 14).toNat - k) S := runF_cg2 hp _ fun j j0 j1 => if_neg (by omega)
      rw [e3, show (p 14).toNat - k = (p 14 - S 22).toNat by omega]
      exact cb_E hp ok.1 (by omega) c
  · rw [runF_e c, losS_id c]
    unfold cbS
    rw [if_neg c]
    exact Or.inl rfl
end
/-! the first of the best, over a row of numbers -/
section
variable {W : Nat → Int} {D : Nat → Int → Int}
abbrev BsT := Int × (Int → Int)
def fdS (W : Nat → Int) (D : Nat → Int → Int) : Nat → Nat → BsT → BsT
  | 0, _, b => b
  | c + 1, i, b => fdS W D c (i + 1) (if b.1 < W i then (W i, D i) else b)
theorem fdS_s {c i : Nat} {b : BsT} : fdS W D (c + 1) i b = fdS W D c (i + 1) (if b.1 < W i then (W i, D i) else b) := rfl
theorem fd_add {a : Nat} : ∀ (c : Nat) {i : Nat} {b : BsT}, fdS W D (c + a) i b = fdS W D a (i + c) (fdS W D c i b) := by
  intro c
  induction c with
  | zero => intro i b; rw [Nat.zero_add]; rfl
  | succ c ih =>
    intro i b
    rw [show c + 1 + a = (c + a) + 1 by omega, fdS_s, fdS_s, ih, show i + 1 + c = i + (c + 1) by omega]
theorem fd_top : ∀ (c : Nat) {i : Nat} {b : BsT}, (∀ j, i ≤ j → j < i + c → W j ≤ b.1) → fdS W D c i b = b := by
  intro c
  induction c with
  | zero => intro i b _; rfl
  | succ c ih =>
    intro i b h
    have := h i (by omega) (by omega)
    rw [fdS_s, if_neg (by omega)]
    exact ih fun j j0 j1 => h j (by omega) (by omega)
theorem fd_one {c i : Nat} {b : BsT} (h : ∀ j, i ≤ j → j < i + (c + 1) → W j = W i) : fdS W D (c + 1) i b = if b.1 < W i then (W i, D i) else b := by
  rw [fdS_s]
  refine fd_top c fun j j0 j1 => ?_
  rw [h j (by omega) (by omega)]
  split
  · exact Int.le_refl _
  · omega
theorem fd_mono : ∀ (c : Nat) {i : Nat} {b : BsT}, b.1 ≤ (fdS W D c i b).1 := by
  intro c
  induction c with
  | zero => intro i b; exact Int.le_refl _
  | succ c ih =>
    intro i b
    rw [fdS_s]
    have := ih (i := i + 1) (b := if b.1 < W i then (W i, D i) else b)
    split at this
    · rename_i q
      rw [if_pos q]
      exact Int.le_trans (Int.le_of_lt q) this
    · rename_i q
      rw [if_neg q]
      exact this
end
