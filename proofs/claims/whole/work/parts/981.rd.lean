/-! a text read, told once: what stands at a place, which joiner binds at a rank, names, figures -/
def pkT (T : Int → Int) (n p : Int) : Int := if p < n then T p else -1
def dgt (t : Int) : Prop := 48 ≤ t ∧ t ≤ 57
def jof (r : Nat) (t : Int) : Int := if r = 0 then (if t = 124 then 0 else -1) else if r = 1 then (if t = 38 then 1 else -1) else if r = 2 then (if t = 60 then 2 else if t = 61 then 3 else if t = 62 then 4 else -1) else if r = 3 then (if t = 43 then 5 else if t = 45 then 6 else -1) else if r = 4 then (if t = 42 then 7 else if t = 47 then 8 else if t = 37 then 9 else -1) else -1
def nmF (t : Int) : Int := if t = 100 then 0 else if t = 114 then 1 else if t = 98 then 2 else if t = 115 then 3 else if t = 110 then 4 else if t = 99 then 5 else -1
def nuV (T : Int → Int) (p : Int) : Nat → Int
  | 0 => 0
  | k + 1 => nuV T p k * 10 + T (p + k) - 48
theorem pkT_lt {T : Int → Int} {n p : Int} (h : ¬ pkT T n p = -1) : p < n := by
  unfold pkT at h
  split at h
  · assumption
  · exact absurd rfl h
theorem pkT_T {T : Int → Int} {n p : Int} (h : p < n) : pkT T n p = T p := if_pos h
theorem jof_lt {T : Int → Int} {n p : Int} {r : Nat} (h : 0 ≤ jof r (pkT T n p)) : p < n := pkT_lt fun c => by
  rw [c] at h
  unfold jof at h
  simp at h
theorem jof_rg (r : Nat) (t : Int) : -1 ≤ jof r t ∧ jof r t ≤ 9 := by
  unfold jof
  (repeat' split) <;> omega
theorem nmF_rg (t : Int) : -1 ≤ nmF t ∧ nmF t ≤ 5 := by
  unfold nmF
  (repeat' split) <;> omega
theorem nmF_lt {T : Int → Int} {n p : Int} (h : 0 ≤ nmF (pkT T n p)) : p < n := pkT_lt fun c => by
  rw [c] at h
  unfold nmF at h
  simp at h
theorem dgt_lt {T : Int → Int} {n p : Int} (h : dgt (pkT T n p)) : p < n := pkT_lt fun c => by
  rw [c] at h
  unfold dgt at h
  omega
/-- after a rank's first: nothing more, or a joiner and what follows -/
def RdL (R : Nat → Int → Int → Int → Option OpL → Prop) (T : Int → Int) (n : Int) (r : Nat) (p o p2 : Int) (res : Option OpL) : Prop :=
  (jof r (pkT T n p) < 0 ∧ p2 = p ∧ res = some []) ∨
  (0 ≤ jof r (pkT T n p) ∧ ((res = none ∧ R (r + 1) (p + 1) o p2 none) ∨
    ∃ p1 a b, R (r + 1) (p + 1) o p1 (some a) ∧ ((r = 2 ∧ p2 = p1 ∧ b = some []) ∨ (r ≠ 2 ∧ R (r + 10) p1 o p2 b)) ∧ res = Option.map (fun b => a ++ (6 + jof r (pkT T n p), 0) :: b) b))
def RdO (R : Nat → Int → Int → Int → Option OpL → Prop) (T : Int → Int) (n : Int) (p o p2 : Int) (res : Option OpL) : Prop :=
  (∃ k : Nat, 1 ≤ k ∧ k ≤ 4 ∧ (∀ i : Nat, i < k → dgt (pkT T n (p + i))) ∧ ¬ dgt (pkT T n (p + k)) ∧ p2 = p + k ∧ res = some [(0, nuV T p k)]) ∨
  ((∀ i : Nat, i < 5 → dgt (pkT T n (p + i))) ∧ p2 = p + 4 ∧ res = none) ∨
  (0 ≤ nmF (pkT T n p) ∧ p2 = p + 1 ∧ res = some [(1, nmF (pkT T n p))]) ∨
  (pkT T n p = 40 ∧ o < 6 ∧ ((res = none ∧ R 0 (p + 1) (o + 1) p2 none) ∨ ∃ p1 a, R 0 (p + 1) (o + 1) p1 (some a) ∧ ((pkT T n p1 = 41 ∧ p2 = p1 + 1 ∧ res = some a) ∨ (¬ pkT T n p1 = 41 ∧ p2 = p1 ∧ res = none)))) ∨
  ((pkT T n p = 33 ∨ pkT T n p = 45) ∧ o < 6 ∧ ∃ b, R 5 (p + 1) (o + 1) p2 b ∧ res = Option.map (fun a => a ++ [(if pkT T n p = 33 then 4 else 5, 0)]) b) ∨
  (¬ dgt (pkT T n p) ∧ nmF (pkT T n p) < 0 ∧ (¬ (pkT T n p = 40 ∨ pkT T n p = 33 ∨ pkT T n p = 45) ∨ 6 ≤ o) ∧ p2 = p ∧ res = none)
/-- kinds: 0 to 4 a rank, 5 an operand, 10 and on what follows a rank's first -/
def RdZ (T : Int → Int) (n : Int) : Nat → Nat → Int → Int → Int → Option OpL → Prop
  | 0 => fun _ _ _ _ _ => False
  | f + 1 => fun k p o p2 res =>
    if k < 5 then (res = none ∧ RdZ T n f (k + 1) p o p2 none) ∨ ∃ p1 a b, RdZ T n f (k + 1) p o p1 (some a) ∧ RdZ T n f (k + 10) p1 o p2 b ∧ res = Option.map (a ++ ·) b
    else if k = 5 then RdO (RdZ T n f) T n p o p2 res
    else RdL (RdZ T n f) T n (k - 10) p o p2 res
section
variable {T : Int → Int} {n : Int}
theorem Rd_r {f k : Nat} {p o p2 : Int} {res : Option OpL} (hk : k < 5) (h : RdZ T n (f + 1) k p o p2 res) : (res = none ∧ RdZ T n f (k + 1) p o p2 none) ∨ ∃ p1 a b, RdZ T n f (k + 1) p o p1 (some a) ∧ RdZ T n f (k + 10) p1 o p2 b ∧ res = Option.map (a ++ ·) b := by
  unfold RdZ at h
  rwa [if_pos hk] at h
theorem Rd_o {f : Nat} {p o p2 : Int} {res : Option OpL} (h : RdZ T n (f + 1) 5 p o p2 res) : RdO (RdZ T n f) T n p o p2 res := h
theorem Rd_l {f r : Nat} {p o p2 : Int} {res : Option OpL} (h : RdZ T n (f + 1) (r + 10) p o p2 res) : RdL (RdZ T n f) T n r p o p2 res := by
  unfold RdZ at h
  rw [if_neg (by omega), if_neg (by omega)] at h
  exact h
def fsR (n : Int) (k : Nat) (p p2 : Int) (res : Option OpL) : Prop := p ≤ p2 ∧ p2 ≤ n ∧ ∀ a, res = some a → (a.length : Int) ≤ p2 - p ∧ okO a (if k < 10 then 0 else 1) 1
theorem Rd_f : ∀ (f k : Nat) (p o p2 : Int) (res : Option OpL), (k ≤ 5 ∨ 10 ≤ k) → RdZ T n f k p o p2 res → p ≤ n → fsR n k p p2 res := by
  intro f
  induction f with
  | zero => intro k p o p2 res _ h; exact absurd h id
  | succ f ih =>
    intro k p o p2 res hk h hp
    by_cases h5 : k < 5
    · rcases Rd_r h5 h with ⟨e, g⟩ | ⟨p1, a, b, g1, g2, e⟩
      · subst e
        have := ih _ _ _ _ _ (by omega) g hp
        exact ⟨this.1, this.2.1, fun a c => by simp at c⟩
      · have q1 := ih _ _ _ _ _ (by omega) g1 hp
        have q2 := ih _ _ _ _ _ (by omega) g2 q1.2.1
        refine ⟨by have := q1.1; have := q2.1; omega, q2.2.1, fun c hc => ?_⟩
        subst e
        cases b with
        | none => simp at hc
        | some b =>
          have hc := Option.some.inj hc
          subst hc
          have r1 := q1.2.2 a rfl
          have r2 := q2.2.2 b rfl
          rw [if_pos (by omega)] at r1
          rw [if_neg (by omega)] at r2
          rw [if_pos (by omega)]
          refine ⟨by rw [List.length_append]; have := r1.1; have := r2.1; omega, okO_app r1.2 r2.2⟩
    · by_cases h6 : k = 5
      · subst h6
        rcases Rd_o h with ⟨k, k1, k2, k3, k4, e1, e2⟩ | ⟨k3, e1, e2⟩ | ⟨k3, e1, e2⟩ | ⟨c, c2, (⟨e, g⟩ | ⟨p1, a, g, (⟨e0, e1, e2⟩ | ⟨e0, e1, e2⟩)⟩)⟩ | ⟨c, c2, b, g, e⟩ | ⟨_, _, _, e1, e2⟩
        · have := dgt_lt (k3 (k - 1) (by omega))
          subst e1 e2
          refine ⟨by omega, by omega, fun a ha => ?_⟩
          have ha := Option.some.inj ha
          subst ha
          exact ⟨by simp; omega, Or.inl ⟨Or.inl rfl, rfl⟩⟩
        · have := dgt_lt (k3 4 (by omega))
          subst e1 e2
          exact ⟨by omega, by omega, fun a ha => by simp at ha⟩
        · have := nmF_lt k3
          subst e1 e2
          refine ⟨by omega, by omega, fun a ha => ?_⟩
          have ha := Option.some.inj ha
          subst ha
          have := nmF_rg (pkT T n p)
          exact ⟨by simp; omega, Or.inl ⟨Or.inr ⟨rfl, k3, by simp only; omega⟩, rfl⟩⟩
        · have hp := pkT_lt (T := T) (n := n) (p := p) (by omega)
          subst e
          have := ih _ _ _ _ _ (by omega) g (by omega)
          exact ⟨by have := this.1; omega, this.2.1, fun a c => by simp at c⟩
        · have hp := pkT_lt (T := T) (n := n) (p := p) (by omega)
          have hp1 := pkT_lt (T := T) (n := n) (p := p1) (by omega)
          subst e1 e2
          have := ih _ _ _ _ _ (by omega) g (by omega)
          refine ⟨by have := this.1; omega, by omega, fun b hb => ?_⟩
          have hb := Option.some.inj hb
          subst hb
          have r := this.2.2 a rfl
          exact ⟨by have := r.1; omega, r.2⟩
        · have hp := pkT_lt (T := T) (n := n) (p := p) (by omega)
          subst e1 e2
          have := ih _ _ _ _ _ (by omega) g (by omega)
          exact ⟨by have := this.1; omega, this.2.1, fun b hb => by simp at hb⟩
        · have hp := pkT_lt (T := T) (n := n) (p := p) (by omega)
          have := ih _ _ _ _ _ (by omega) g (by omega)
          refine ⟨by have := this.1; omega, this.2.1, fun a ha => ?_⟩
          subst e
          cases b with
          | none => simp at ha
          | some b =>
            have ha := Option.some.inj ha
            subst ha
            have r := this.2.2 b rfl
            refine ⟨by rw [List.length_append]; have := r.1; simp only [List.length_cons, List.length_nil]; omega, okO_app r.2 (Or.inr (Or.inl ⟨?_, by decide, rfl⟩))⟩
            simp only
            split
            · exact Or.inl rfl
            · exact Or.inr rfl
        · subst e1 e2
          exact ⟨by omega, by omega, fun a ha => by simp at ha⟩
      · obtain ⟨r, rfl⟩ : ∃ r, k = r + 10 := ⟨k - 10, by omega⟩
        rcases Rd_l h with ⟨c, e1, e2⟩ | ⟨c, (⟨e, g⟩ | ⟨p1, a, b, g1, g2, e⟩)⟩
        · subst e1 e2
          refine ⟨by omega, by omega, fun a ha => ?_⟩
          have ha := Option.some.inj ha
          subst ha
          exact ⟨by simp, by rw [if_neg (by omega)]; exact rfl⟩
        · have hp := jof_lt c
          subst e
          by_cases hr : r + 1 ≤ 5 ∨ 10 ≤ r + 1
          · have := ih _ _ _ _ _ hr g (by omega)
            exact ⟨by have := this.1; omega, this.2.1, fun a c => by simp at c⟩
          · exfalso
            unfold jof at c
            rw [if_neg (by omega), if_neg (by omega), if_neg (by omega), if_neg (by omega), if_neg (by omega)] at c
            omega
        · have hp := jof_lt c
          by_cases hr : r + 1 ≤ 5 ∨ 10 ≤ r + 1
          · have hr5 : r + 1 ≤ 5 := by
              refine hr.resolve_right fun q => ?_
              unfold jof at c
              rw [if_neg (by omega), if_neg (by omega), if_neg (by omega), if_neg (by omega), if_neg (by omega)] at c
              omega
            have q1 := ih _ _ _ _ _ hr g1 (by omega)
            have q2 : p1 ≤ p2 ∧ p2 ≤ n ∧ ∀ x, b = some x → (x.length : Int) ≤ p2 - p1 ∧ okO x 1 1 := by
              rcases g2 with ⟨_, e1, e2⟩ | ⟨_, g⟩
              · subst e1 e2
                refine ⟨by omega, q1.2.1, fun x hx => ?_⟩
                have hx := Option.some.inj hx
                subst hx
                exact ⟨by simp, rfl⟩
              · have := ih _ _ _ _ _ (by omega) g q1.2.1
                unfold fsR at this
                rw [if_neg (by omega)] at this
                exact this
            refine ⟨by have := q1.1; have := q2.1; omega, q2.2.1, fun x hx => ?_⟩
            subst e
            cases b with
            | none => simp at hx
            | some b =>
              have hx := Option.some.inj hx
              subst hx
              have r1 := q1.2.2 a rfl
              have r2 := q2.2.2 b rfl
              rw [if_pos (by omega)] at r1
              rw [if_neg (by omega)]
              have hj := jof_rg r (pkT T n p)
              refine ⟨by rw [List.length_append, List.length_cons]; have := r1.1; have := r2.1; have := q1.1; omega, okO_app (okO_add 1 r1.2) (Or.inr (Or.inr ⟨by simp only; omega, by simp only; omega, by decide, r2.2⟩))⟩
          · exfalso
            unfold jof at c
            rw [if_neg (by omega), if_neg (by omega), if_neg (by omega), if_neg (by omega), if_neg (by omega)] at c
            omega
/-! every text is read -/
def ExR (T : Int → Int) (n : Int) (k : Nat) (p o : Int) : Prop := ∃ p2 res, ∃ F : Nat, ∀ f : Nat, F ≤ f → RdZ T n f k p o p2 res
theorem Rd_up {f F : Nat} (h : F + 1 ≤ f) : ∃ g, f = g + 1 ∧ F ≤ g := ⟨f - 1, by omega, by omega⟩
theorem ex_loop {r : Nat} {p o : Int} (ih : ∀ p1 o k, p < p1 → p1 ≤ n → (k ≤ 5 ∨ 10 ≤ k) → ExR T n k p1 o) : ExR T n (r + 10) p o := by
  by_cases c : jof r (pkT T n p) < 0
  · refine ⟨p, some [], 1, fun f hf => ?_⟩
    obtain ⟨g, rfl, _⟩ := Rd_up hf
    unfold RdZ
    rw [if_neg (by omega), if_neg (by omega)]
    exact Or.inl ⟨c, rfl, rfl⟩
  · have c : 0 ≤ jof r (pkT T n p) := by omega
    have hp := jof_lt c
    have hr5 : r + 1 ≤ 5 := by
      refine Decidable.byContradiction fun q => ?_
      unfold jof at c
      rw [if_neg (by omega), if_neg (by omega), if_neg (by omega), if_neg (by omega), if_neg (by omega)] at c
      omega
    obtain ⟨p1, res, F, hF⟩ := ih (p + 1) o (r + 1) (by omega) (by omega) (by omega)
    have q := Rd_f _ _ _ _ _ _ (by omega) (hF F (Nat.le_refl _)) (by omega)
    cases res with
    | none =>
      refine ⟨p1, none, F + 1, fun f hf => ?_⟩
      obtain ⟨g, rfl, hg⟩ := Rd_up hf
      unfold RdZ
      rw [if_neg (by omega), if_neg (by omega)]
      exact Or.inr ⟨c, Or.inl ⟨rfl, hF g hg⟩⟩
    | some a =>
      by_cases h2 : r = 2
      · refine ⟨p1, Option.map (fun b => a ++ (6 + jof r (pkT T n p), 0) :: b) (some []), F + 1, fun f hf => ?_⟩
        obtain ⟨g, rfl, hg⟩ := Rd_up hf
        unfold RdZ
        rw [if_neg (by omega), if_neg (by omega)]
        exact Or.inr ⟨c, Or.inr ⟨p1, a, some [], hF g hg, Or.inl ⟨h2, rfl, rfl⟩, rfl⟩⟩
      · obtain ⟨p2, b, F2, hF2⟩ := ih p1 o (r + 10) (by have := q.1; omega) q.2.1 (by omega)
        refine ⟨p2, Option.map (fun b => a ++ (6 + jof r (pkT T n p), 0) :: b) b, F + F2 + 1, fun f hf => ?_⟩
        obtain ⟨g, rfl, hg⟩ := Rd_up hf
        unfold RdZ
        rw [if_neg (by omega), if_neg (by omega)]
        exact Or.inr ⟨c, Or.inr ⟨p1, a, b, hF g (by omega), Or.inr ⟨h2, hF2 g (by omega)⟩, rfl⟩⟩
theorem ex_opdO {p o p2 : Int} {res : Option OpL} (h : ∃ F : Nat, ∀ f : Nat, F ≤ f → RdO (RdZ T n f) T n p o p2 res) : ExR T n 5 p o := by
  obtain ⟨F, hF⟩ := h
  refine ⟨p2, res, F + 1, fun f hf => ?_⟩
  obtain ⟨g, rfl, hg⟩ := Rd_up hf
  exact hF g hg
theorem ex_opd {p o : Int} (hp : p ≤ n) (ih : ∀ p1 o k, p < p1 → p1 ≤ n → (k ≤ 5 ∨ 10 ≤ k) → ExR T n k p1 o) : ExR T n 5 p o := by
  by_cases d0 : dgt (pkT T n p)
  · have num : ∀ k : Nat, 1 ≤ k → k ≤ 4 → (∀ i : Nat, i < k → dgt (pkT T n (p + i))) → ¬ dgt (pkT T n (p + k)) → ExR T n 5 p o := fun k k1 k2 k3 k4 => ex_opdO ⟨0, fun f _ => Or.inl ⟨k, k1, k2, k3, k4, rfl, rfl⟩⟩
    have s0 : dgt (pkT T n (p + (0 : Nat))) := by simpa using d0
    by_cases d1 : dgt (pkT T n (p + (1 : Nat)))
    · by_cases d2 : dgt (pkT T n (p + (2 : Nat)))
      · by_cases d3 : dgt (pkT T n (p + (3 : Nat)))
        · by_cases d4 : dgt (pkT T n (p + (4 : Nat)))
          · refine ex_opdO ⟨0, fun f _ => Or.inr (Or.inl ⟨fun i hi => ?_, rfl, rfl⟩)⟩
            have : i = 0 ∨ i = 1 ∨ i = 2 ∨ i = 3 ∨ i = 4 := by omega
            rcases this with rfl | rfl | rfl | rfl | rfl <;> assumption
          · refine num 4 (by omega) (by omega) (fun i hi => ?_) d4
            have : i = 0 ∨ i = 1 ∨ i = 2 ∨ i = 3 := by omega
            rcases this with rfl | rfl | rfl | rfl <;> assumption
        · refine num 3 (by omega) (by omega) (fun i hi => ?_) d3
          have : i = 0 ∨ i = 1 ∨ i = 2 := by omega
          rcases this with rfl | rfl | rfl <;> assumption
      · refine num 2 (by omega) (by omega) (fun i hi => ?_) d2
        have : i = 0 ∨ i = 1 := by omega
        rcases this with rfl | rfl <;> assumption
    · refine num 1 (by omega) (by omega) (fun i hi => ?_) d1
      have : i = 0 := by omega
      subst this; assumption
  · by_cases cn : 0 ≤ nmF (pkT T n p)
    · exact ex_opdO ⟨0, fun f _ => Or.inr (Or.inr (Or.inl ⟨cn, rfl, rfl⟩))⟩
    · by_cases ho : o < 6
      · by_cases c4 : pkT T n p = 40
        · have hp1 := pkT_lt (T := T) (n := n) (p := p) (by omega)
          obtain ⟨p1, res, F, hF⟩ := ih (p + 1) (o + 1) 0 (by omega) (by omega) (by omega)
          cases res with
          | none => exact ex_opdO ⟨F, fun f hf => Or.inr (Or.inr (Or.inr (Or.inl ⟨c4, ho, Or.inl ⟨rfl, hF f hf⟩⟩)))⟩
          | some a =>
            by_cases e : pkT T n p1 = 41
            · exact ex_opdO ⟨F, fun f hf => Or.inr (Or.inr (Or.inr (Or.inl ⟨c4, ho, Or.inr ⟨p1, a, hF f hf, Or.inl ⟨e, rfl, rfl⟩⟩⟩)))⟩
            · exact ex_opdO ⟨F, fun f hf => Or.inr (Or.inr (Or.inr (Or.inl ⟨c4, ho, Or.inr ⟨p1, a, hF f hf, Or.inr ⟨e, rfl, rfl⟩⟩⟩)))⟩
        · by_cases c5 : pkT T n p = 33 ∨ pkT T n p = 45
          · have hp1 := pkT_lt (T := T) (n := n) (p := p) (by omega)
            obtain ⟨p1, res, F, hF⟩ := ih (p + 1) (o + 1) 5 (by omega) (by omega) (by omega)
            exact ex_opdO ⟨F, fun f hf => Or.inr (Or.inr (Or.inr (Or.inr (Or.inl ⟨c5, ho, res, hF f hf, rfl⟩))))⟩
          · exact ex_opdO ⟨0, fun f _ => Or.inr (Or.inr (Or.inr (Or.inr (Or.inr ⟨d0, by omega, Or.inl (by omega), rfl, rfl⟩))))⟩
      · exact ex_opdO ⟨0, fun f _ => Or.inr (Or.inr (Or.inr (Or.inr (Or.inr ⟨d0, by omega, Or.inr (by omega), rfl, rfl⟩))))⟩
theorem ex_rank {k : Nat} {p o : Int} (hk : k < 5) (hp : p ≤ n) (h1 : ExR T n (k + 1) p o) (h2 : ∀ p1, p ≤ p1 → p1 ≤ n → ExR T n (k + 10) p1 o) : ExR T n k p o := by
  obtain ⟨p1, res, F, hF⟩ := h1
  have q := Rd_f _ _ _ _ _ _ (by omega) (hF F (Nat.le_refl _)) hp
  cases res with
  | none =>
    refine ⟨p1, none, F + 1, fun f hf => ?_⟩
    obtain ⟨g, rfl, hg⟩ := Rd_up hf
    unfold RdZ
    rw [if_pos hk]
    exact Or.inl ⟨rfl, hF g hg⟩
  | some a =>
    obtain ⟨p2, b, F2, hF2⟩ := h2 p1 q.1 q.2.1
    refine ⟨p2, Option.map (a ++ ·) b, F + F2 + 1, fun f hf => ?_⟩
    obtain ⟨g, rfl, hg⟩ := Rd_up hf
    unfold RdZ
    rw [if_pos hk]
    exact Or.inr ⟨p1, a, b, hF g (by omega), hF2 g (by omega), rfl⟩
theorem Rd_ex : ∀ (N : Nat) (p o : Int) (k : Nat), n - p ≤ N → p ≤ n → (k ≤ 5 ∨ 10 ≤ k) → ExR T n k p o := by
  intro N
  induction N with
  | zero =>
    intro p o k h hp hk
    have ih : ∀ p1 o k, p < p1 → p1 ≤ n → (k ≤ 5 ∨ 10 ≤ k) → ExR T n k p1 o := fun p1 _ _ c c2 _ => by omega
    have lo : ∀ r p1, p ≤ p1 → p1 ≤ n → ExR T n (r + 10) p1 o := fun r p1 c c2 => by
      obtain rfl : p1 = p := by omega
      exact ex_loop ih
    have k5 := ex_opd (o := o) hp ih
    have k4 := ex_rank (k := 4) (by omega) hp k5 (lo 4)
    have k3 := ex_rank (k := 3) (by omega) hp k4 (lo 3)
    have k2 := ex_rank (k := 2) (by omega) hp k3 (lo 2)
    have k1 := ex_rank (k := 1) (by omega) hp k2 (lo 1)
    have k0 := ex_rank (k := 0) (by omega) hp k1 (lo 0)
    rcases hk with hk | hk
    · have : k = 0 ∨ k = 1 ∨ k = 2 ∨ k = 3 ∨ k = 4 ∨ k = 5 := by omega
      rcases this with rfl | rfl | rfl | rfl | rfl | rfl <;> assumption
    · obtain ⟨r, rfl⟩ : ∃ r, k = r + 10 := ⟨k - 10, by omega⟩
      exact ex_loop ih
  | succ N IH =>
    intro p o k h hp hk
    have ih : ∀ p1 o k, p < p1 → p1 ≤ n → (k ≤ 5 ∨ 10 ≤ k) → ExR T n k p1 o := fun p1 o k c c2 c3 => IH p1 o k (by omega) c2 c3
    have lo : ∀ r p1, p ≤ p1 → p1 ≤ n → ExR T n (r + 10) p1 o := fun r p1 c c2 => by
      by_cases e : p1 = p
      · subst e
        exact ex_loop ih
      · exact ih _ _ _ (by omega) c2 (by omega)
    have k5 := ex_opd (o := o) hp ih
    have k4 := ex_rank (k := 4) (by omega) hp k5 (lo 4)
    have k3 := ex_rank (k := 3) (by omega) hp k4 (lo 3)
    have k2 := ex_rank (k := 2) (by omega) hp k3 (lo 2)
    have k1 := ex_rank (k := 1) (by omega) hp k2 (lo 1)
    have k0 := ex_rank (k := 0) (by omega) hp k1 (lo 0)
    rcases hk with hk | hk
    · have : k = 0 ∨ k = 1 ∨ k = 2 ∨ k = 3 ∨ k = 4 ∨ k = 5 := by omega
      rcases this with rfl | rfl | rfl | rfl | rfl | rfl <;> assumption
    · obtain ⟨r, rfl⟩ : ∃ r, k = r + 10 := ⟨k - 10, by omega⟩
      exact ex_loop ih
end
