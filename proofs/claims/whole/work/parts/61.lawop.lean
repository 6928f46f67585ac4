/-! a row of operations, and how both work it out -/
abbrev OpL : Type := List (Int × Int)
abbrev LnL : Type := List (OpL × OpL)
def stO (fa : Int → Int) (o : Int × Int) (st : List Int) : List Int :=
  if o.1 = 0 then o.2 :: st else if o.1 = 1 then fa o.2 :: st else match st with
  | [] => []
  | a :: r => if o.1 = 4 then (if a = 0 then 1 else 0) :: r else if o.1 = 5 then w32 (-a) :: r else match r with
    | [] => []
    | b :: r2 => jnF (o.1 - 6) b a :: r2
def runO (fa : Int → Int) : OpL → List Int → List Int
  | [], st => st
  | o :: os, st => runO fa os (stO fa o st)
def okO : OpL → Nat → Nat → Prop
  | [], k, k2 => k = k2
  | o :: os, k, k2 => ((o.1 = 0 ∨ (o.1 = 1 ∧ 0 ≤ o.2 ∧ o.2 < 6)) ∧ okO os (k + 1) k2) ∨ ((o.1 = 4 ∨ o.1 = 5) ∧ 1 ≤ k ∧ okO os k k2) ∨ (6 ≤ o.1 ∧ o.1 ≤ 15 ∧ 2 ≤ k ∧ okO os (k - 1) k2)
theorem okO_add (c : Nat) : ∀ {os : OpL} {k k2 : Nat}, okO os k k2 → okO os (k + c) (k2 + c) := by
  intro os
  induction os with
  | nil => intro k k2 h; show k + c = k2 + c; have : k = k2 := h; omega
  | cons o os ih =>
    intro k k2 h
    rcases h with ⟨h1, h2⟩ | ⟨h1, h2, h3⟩ | ⟨h0, h1, h2, h3⟩
    · left
      have := ih h2
      rw [show k + 1 + c = k + c + 1 by omega] at this
      exact ⟨h1, this⟩
    · right; left
      exact ⟨h1, by omega, ih h3⟩
    · right; right
      have := ih h3
      rw [show k - 1 + c = k + c - 1 by omega] at this
      exact ⟨h0, h1, by omega, this⟩
theorem okO_app : ∀ {a b : OpL} {k k2 k3 : Nat}, okO a k k2 → okO b k2 k3 → okO (a ++ b) k k3 := by
  intro a
  induction a with
  | nil => intro b k k2 k3 h h2; have : k = k2 := h; subst this; exact h2
  | cons o os ih =>
    intro b k k2 k3 h hb
    rcases h with ⟨h1, h2⟩ | ⟨h1, h2, h3⟩ | ⟨h0, h1, h2, h3⟩
    · exact Or.inl ⟨h1, ih h2 hb⟩
    · exact Or.inr (Or.inl ⟨h1, h2, ih h3 hb⟩)
    · exact Or.inr (Or.inr ⟨h0, h1, h2, ih h3 hb⟩)
theorem okO_len (fa : Int → Int) : ∀ {os : OpL} {st : List Int} {k2 : Nat}, okO os st.length k2 → (runO fa os st).length = k2 := by
  intro os
  induction os with
  | nil => intro st k2 h; exact h
  | cons o os ih =>
    intro st k2 h
    show (runO fa os (stO fa o st)).length = k2
    rcases h with ⟨h1, h2⟩ | ⟨h1, h2, h3⟩ | ⟨h0, h1, h2, h3⟩
    · refine ih ?_
      have e : (stO fa o st).length = st.length + 1 := by
        unfold stO
        rcases h1 with h1 | ⟨h1, -⟩ <;> simp [h1]
      rw [e]; exact h2
    · refine ih ?_
      cases st with
      | nil => simp at h2
      | cons a r =>
        have e : (stO fa o (a :: r)).length = (a :: r).length := by
          unfold stO
          rcases h1 with h1 | h1 <;> simp [h1]
        rw [e]; exact h3
    · refine ih ?_
      match st, h2, h3 with
      | [], h2, _ => simp at h2
      | [_], h2, _ => simp at h2
      | a :: b :: r, h2, h3 =>
        have e : (stO fa o (a :: b :: r)).length = (a :: b :: r).length - 1 := by
          unfold stO
          have e0 : ¬ o.1 = 0 := by omega
          have e1 : ¬ o.1 = 1 := by omega
          have e4 : ¬ o.1 = 4 := by omega
          have e5 : ¬ o.1 = 5 := by omega
          simp [e0, e1, e4, e5]
        rw [e]; exact h3
def enO (f g : Int → Int) : Int → OpL → Prop
  | _, [] => True
  | x, o :: os => f x = o.1 ∧ g x = o.2 ∧ enO f g (x + 1) os
def mcF (c : Int) : Int := if c = 0 then 1 else if c = 1 then 2 else if c = 4 then 3 else if c = 5 then 4 else jcF (c - 6)
def enM (f g : Int → Int) : Int → OpL → Prop
  | _, [] => True
  | x, o :: os => f x = mcF o.1 ∧ (o.1 ≤ 1 → g x = o.2) ∧ enM f g (x + 1) os
theorem enM_app {f g : Int → Int} : ∀ {a b : OpL} {x : Int}, enM f g x (a ++ b) → enM f g x a ∧ enM f g (x + a.length) b := by
  intro a
  induction a with
  | nil => intro b x h; exact ⟨trivial, by simpa using h⟩
  | cons o os ih =>
    intro b x h
    obtain ⟨h1, h2, h3⟩ := h
    obtain ⟨g1, g2⟩ := ih h3
    refine ⟨⟨h1, h2, g1⟩, ?_⟩
    have e : x + ((o :: os).length : Int) = x + 1 + os.length := by simp; omega
    rw [e]; exact g2
/-- a stack, its top first -/
def stk (f : Int → Int) : List Int → Prop
  | [] => True
  | a :: r => f r.length = a ∧ stk f r
theorem stk_cg {f g : Int → Int} : ∀ {st : List Int}, (∀ i : Int, 0 ≤ i → i < st.length → g i = f i) → stk f st → stk g st := by
  intro st
  induction st with
  | nil => intro _ _; trivial
  | cons a r ih =>
    intro h hs
    refine ⟨?_, ih (fun i h0 h1 => h i h0 (by simp only [List.length_cons]; omega)) hs.2⟩
    rw [h r.length (by omega) (by simp only [List.length_cons]; omega)]
    exact hs.1
theorem stk_up {f : Int → Int} {st : List Int} {v x : Int} (h : stk f st) (hx : x = st.length) : stk (fun i => if i = x then v else f i) (v :: st) := by
  subst hx
  refine ⟨by simp, stk_cg (fun i h0 h1 => ?_) h⟩
  have : ¬ i = st.length := by omega
  simp [this]
section
variable {d l jn : Nat} {fa : Int → Int}
set_option maxHeartbeats 1000000 in
theorem cc_ops {n : Int} (hn : n ≤ 128) {Q : Option AV → AMem → Prop} : ∀ (os : OpL) (st : List Int) (x : Int) (m : AMem) (k2 : Nat),
    m 3 l 3 = n → (∀ i : Int, 0 ≤ i → i < 6 → m 802 jn i = fa i) → (st.length : Int) ≤ x → x + os.length ≤ n → enO (m 400 l) (m 401 l) x os → okO os st.length k2 → stk (m 402 l) st →
    (∀ m2, FrM [402] m m2 → stk (m2 402 l) (runO fa os st) → Y cX3_worth 6 RX3 (d + 2) none 4 [some (vr 3 l), some (vr 802 jn), some (vi (runO fa os st).length), some (vi (x + os.length)), none, none] [] m2 Q) →
    Y cX3_worth 6 RX3 (d + 2) none 4 [some (vr 3 l), some (vr 802 jn), some (vi st.length), some (vi x), none, none] [] m Q := by
  intro os
  induction os with
  | nil =>
    intro st x m k2 _ _ _ _ _ _ hs h
    have := h m (FrM_refl _ _) hs
    simpa [runO] using this
  | cons o os ih =>
    intro st x m k2 hsz hfa hx hxn he ho hs h
    obtain ⟨he1, he2, he3⟩ := he
    have hlen : ((o :: os).length : Int) = os.length + 1 := by simp
    have hx1 : w32 (x + 1) = x + 1 := w32i (by omega) (by omega)
    have go : ∀ (st2 : List Int) (i v : Int) (k : Nat), stO fa o st = st2 → (st2.length : Int) ≤ x + 1 → okO os st2.length k → stk (fun y => if y = i then v else m 402 l y) st2 → k = k2 →
        ∀ e1 e2, Y cX3_worth 6 RX3 (d + 2) none 4 [some (vr 3 l), some (vr 802 jn), some (vi st2.length), some (vi (w32 (x + 1))), some (vi e1), some (vi e2)] [] (upM m 402 l i v) Q := by
      intro st2 i v k e1 e2 e3 e4 e5 q1 q2
      subst e5
      rw [hx1]
      refine Y_fg (by exact ⟨rfl, rfl, rfl, rfl, trivial⟩) (ih st2 (x + 1) (upM m 402 l i v) k ?_ ?_ e2 (by omega) ?_ e3 ?_ ?_)
      · rw [up_k (by decide)]; exact hsz
      · intro i0 g1 g2; rw [up_k (by decide)]; exact hfa i0 g1 g2
      · rw [up_f (by decide), up_f (by decide)]; exact he3
      · rw [up_e]; exact e4
      · intro m2 hF hs2
        have e : runO fa (o :: os) st = runO fa os st2 := by show runO fa os (stO fa o st) = _; rw [e1]
        have := h m2 (FrM_trans (FrM_uk (FrM_refl _ _) (by decide) (by decide)) hF) (by rw [e]; exact hs2)
        rw [e, hlen, show x + ((os.length : Int) + 1) = x + 1 + os.length by omega] at this
        exact this
    refine sg_X3_worth_4 _ _ _ _ _ _ ⟨fun c => by omega, fun c => ⟨by omega, by omega, ?_⟩⟩
    rw [he1, he2]
    rcases ho with ⟨h1, h2⟩ | ⟨h1, h2, h3⟩ | ⟨h0, h1, h2, h3⟩
    · have h128 : (st.length : Int) < 128 := by omega
      have hst : w32 ((st.length : Int) + 1) = ((st.length + 1 : Nat) : Int) := by rw [w32i (by omega) (by omega)]; simp
      have hl3 : ((st.length + 1 : Nat) : Int) ≤ x + 1 := by clear hst; omega
      rcases h1 with h1 | h1
      · refine ⟨fun c1 => absurd c1 (by rw [h1]; decide), fun c1 => ⟨fun c2 => ⟨fun c3 => absurd h1 c3, fun c3 => ⟨⟨Int.natCast_nonneg _, h128⟩, ?_⟩⟩, fun c2 => absurd h128 c2⟩⟩
        rw [hst]
        exact go (o.2 :: st) st.length o.2 k2 (by simp [stO, h1]) hl3 h2 (stk_up hs rfl) rfl _ _
      · refine ⟨fun c1 => absurd c1 (by rw [h1.1]; decide), fun c1 => ⟨fun c2 => ⟨fun c3 => ⟨h1.2, ⟨Int.natCast_nonneg _, h128⟩, ?_⟩, fun c3 => absurd (h1.1.symm.trans c3) (by decide)⟩, fun c2 => absurd h128 c2⟩⟩
        rw [hst, hfa _ h1.2.1 h1.2.2]
        exact go (fa o.2 :: st) st.length (fa o.2) k2 (by simp [stO, h1.1]) hl3 h2 (stk_up hs rfl) rfl _ _
    · match st, h2, h3, hs, hx, go with
      | [], h2, _, _, _, _ => simp at h2
      | a :: r, h2, h3, hs, hx, go =>
        have e1 : w32 (((a :: r).length : Int) - 1) = r.length := by rw [w32i (by omega) (by omega)]; simp
        have hl1 : ((a :: r).length : Int) = r.length + 1 := by simp
        rw [e1, hs.1]
        refine ⟨fun c1 => ⟨fun c2 => ⟨fun c3 => ⟨fun c4 => ⟨fun c5 => ⟨fun c6 => by omega, fun c6 => ?_⟩, fun c5 => ?_⟩, fun c4 => by omega⟩, fun c3 => by omega⟩, fun c2 => by omega⟩, fun c1 => by omega⟩
        · refine ⟨by omega, by omega, ?_⟩
          exact go (w32 (-a) :: r) r.length (w32 (-a)) k2 (by simp [stO, c6]) (by simp only [List.length_cons]; omega) h3 (stk_up hs.2 rfl) rfl _ _
        · refine ⟨by omega, fun c6 => ⟨by omega, ?_⟩, fun c6 => ⟨by omega, ?_⟩⟩
          · exact go (0 :: r) r.length 0 k2 (by simp [stO, c5, c6]) (by simp only [List.length_cons]; omega) h3 (stk_up hs.2 rfl) rfl _ _
          · exact go (1 :: r) r.length 1 k2 (by simp [stO, c5, c6]) (by simp only [List.length_cons]; omega) h3 (stk_up hs.2 rfl) rfl _ _
    · match st, h2, h3, hs, hx, go with
      | [], h2, _, _, _, _ => simp at h2
      | [_], h2, _, _, _, _ => simp at h2
      | a :: b :: r, h2, h3, hs, hx, go =>
        have e1 : w32 (((a :: b :: r).length : Int) + -1) = (b :: r).length := by rw [w32i (by omega) (by omega)]; simp; omega
        have hl1 : ((b :: r).length : Int) = r.length + 1 := by simp
        have hl2 : ((a :: b :: r).length : Int) = r.length + 2 := by simp; omega
        have e2 : w32 (((b :: r).length : Int) - 1) = r.length := by rw [w32i (by omega) (by omega)]; omega
        have e3 : w32 (o.1 - 6) = o.1 - 6 := w32i (by omega) (by omega)
        rw [e1, e2, e3, hs.1, hs.2.1]
        refine ⟨fun c1 => ⟨fun c2 => ⟨fun c3 => ⟨fun c4 => ⟨fun c5 => ⟨fun c6 => ⟨fun c7 => ⟨by omega, by omega, ?_⟩, fun c7 => by omega⟩, fun c6 => by omega⟩, fun c5 => by omega⟩, fun c4 => by omega⟩, fun c3 => by omega⟩, fun c2 => by omega⟩, fun c1 => by omega⟩
        refine cc_joined ⟨_, rfl, by omega, ?_⟩
        have c0 : ¬ o.1 = 0 := by omega
        have c1 : ¬ o.1 = 1 := by omega
        have c4 : ¬ o.1 = 4 := by omega
        have c5 : ¬ o.1 = 5 := by omega
        exact go (jnF (o.1 - 6) b a :: r) r.length _ k2 (by simp [stO, c0, c1, c4, c5]) (by simp only [List.length_cons]; omega) h3 (stk_up hs.2.2 rfl) rfl _ _
set_option maxHeartbeats 1000000 in
theorem cm_ops {f0 n : Int} (hn : n ≤ 128) {Q : Option AV → AMem → Prop} : ∀ (os : OpL) (st : List Int) (x : Int) (m : AMem) (k2 : Nat),
    (∀ i : Int, 0 ≤ i → i < 6 → m 1324 0 i = fa i) → (st.length : Int) ≤ x → x + os.length ≤ n → enM (m 1319 0) (m 1320 0) x os → okO os st.length k2 → stk (m 1325 0) st →
    (∀ m2, FrM [1325] m m2 → stk (m2 1325 0) (runO fa os st) → Y cX12_worked 7 RX12 (d + 2) none 12 [some (vr 12 0), some (vi 0), some (vi f0), some (vi n), some (vi (runO fa os st).length), some (vi (x + os.length)), none] [] m2 Q) →
    Y cX12_worked 7 RX12 (d + 2) none 12 [some (vr 12 0), some (vi 0), some (vi f0), some (vi n), some (vi st.length), some (vi x), none] [] m Q := by
  intro os
  induction os with
  | nil =>
    intro st x m k2 _ _ _ _ _ hs h
    have := h m (FrM_refl _ _) hs
    simpa [runO] using this
  | cons o os ih =>
    intro st x m k2 hfa hx hxn he ho hs h
    obtain ⟨he1, he2, he3⟩ := he
    have hlen : ((o :: os).length : Int) = os.length + 1 := by simp
    have hx1 : w32 (x + 1) = x + 1 := w32i (by omega) (by omega)
    have hn0 : w32 (w32 (130 * 0) + n) = n := by rw [w32i (z := 130 * 0) (by omega) (by omega), w32i (by omega) (by omega)]; omega
    have go : ∀ (st2 : List Int) (i v : Int) (k : Nat), stO fa o st = st2 → (st2.length : Int) ≤ x + 1 → okO os st2.length k → stk (fun y => if y = i then v else m 1325 0 y) st2 → k = k2 →
        ∀ e1, Y cX12_worked 7 RX12 (d + 2) none 12 [some (vr 12 0), some (vi 0), some (vi f0), some (vi n), some (vi st2.length), some (vi (w32 (x + 1))), some (vi e1)] [] (upM m 1325 0 i v) Q := by
      intro st2 i v k e1 e2 e3 e4 e5 q1
      subst e5
      rw [hx1]
      refine Y_fg (by exact ⟨rfl, rfl, rfl, rfl, rfl, rfl, trivial⟩) (ih st2 (x + 1) (upM m 1325 0 i v) k ?_ e2 (by omega) ?_ e3 ?_ ?_)
      · intro i0 g1 g2; rw [up_k (by decide)]; exact hfa i0 g1 g2
      · rw [up_f (by decide), up_f (by decide)]; exact he3
      · rw [up_e]; exact e4
      · intro m2 hF hs2
        have e : runO fa (o :: os) st = runO fa os st2 := by show runO fa os (stO fa o st) = _; rw [e1]
        have := h m2 (FrM_trans (FrM_uk (FrM_refl _ _) (by decide) (by decide)) hF) (by rw [e]; exact hs2)
        rw [e, hlen, show x + ((os.length : Int) + 1) = x + 1 + os.length by omega] at this
        exact this
    refine sg_X12_worked_12 _ _ _ _ _ _ _ ⟨fun c => by omega, fun c => ⟨by omega, ?_⟩⟩
    rw [he1]
    rcases ho with ⟨h1, h2⟩ | ⟨h1, h2, h3⟩ | ⟨h0, h1, h2, h3⟩
    · have hst : w32 ((st.length : Int) + 1) = ((st.length + 1 : Nat) : Int) := by rw [w32i (by omega) (by omega)]; simp
      have he2 := he2 (by omega)
      have e12 : mcF o.1 = if o.1 = 0 then 1 else 2 := by
        rcases h1 with h1 | h1
        · simp [mcF, h1]
        · simp [mcF, h1.1]
      rw [e12]
      rcases h1 with h1 | h1
      · rw [if_pos h1]
        refine ⟨fun _ => sg_X12_worked_45 _ _ _ _ _ _ _ _ ⟨fun c => absurd rfl c, fun _ => ⟨by omega, by omega, ?_⟩⟩, fun c => absurd rfl c⟩
        rw [hst, he2]
        exact go (o.2 :: st) st.length o.2 k2 (by simp [stO, h1]) (by simp only [List.length_cons]; omega) h2 (stk_up hs rfl) rfl _
      · rw [if_neg (by omega)]
        refine ⟨fun c => by omega, fun _ => ⟨fun c => absurd rfl c, fun _ => sg_X12_worked_45 _ _ _ _ _ _ _ _ ⟨fun _ => ⟨by omega, by omega, by omega, ?_⟩, fun c => by omega⟩⟩⟩
        rw [hst, he2, hfa _ h1.2.1 h1.2.2]
        exact go (fa o.2 :: st) st.length (fa o.2) k2 (by simp [stO, h1.1]) (by simp only [List.length_cons]; omega) h2 (stk_up hs rfl) rfl _
    · match st, h2, h3, hs, hx, go with
      | [], h2, _, _, _, _ => simp at h2
      | a :: r, h2, h3, hs, hx, go =>
        have e1 : w32 (((a :: r).length : Int) - 1) = r.length := by rw [w32i (by omega) (by omega)]; simp
        have hl1 : ((a :: r).length : Int) = r.length + 1 := by simp
        have e34 : mcF o.1 = if o.1 = 4 then 3 else 4 := by
          rcases h1 with h1 | h1
          · simp [mcF, h1]
          · simp [mcF, h1]
        rw [e1, hs.1, e34]
        rcases h1 with h1 | h1
        · rw [if_pos h1]
          refine ⟨fun c => by omega, fun _ => ⟨fun _ => ⟨fun c => absurd rfl c, fun _ => ⟨by omega, fun c6 => ⟨by omega, ?_⟩, fun c6 => ⟨by omega, ?_⟩⟩⟩, fun c => by omega⟩⟩
          · exact go (0 :: r) r.length 0 k2 (by simp [stO, h1, c6]) (by simp only [List.length_cons]; omega) h3 (stk_up hs.2 rfl) rfl _
          · exact go (1 :: r) r.length 1 k2 (by simp [stO, h1, c6]) (by simp only [List.length_cons]; omega) h3 (stk_up hs.2 rfl) rfl _
        · rw [if_neg (by omega)]
          refine ⟨fun c => by omega, fun _ => ⟨fun _ => ⟨fun _ => ⟨fun c => absurd rfl c, fun _ => ⟨by omega, by omega, ?_⟩⟩, fun c => by omega⟩, fun c => by omega⟩⟩
          exact go (w32 (-a) :: r) r.length (w32 (-a)) k2 (by simp [stO, h1]) (by simp only [List.length_cons]; omega) h3 (stk_up hs.2 rfl) rfl _
    · match st, h2, h3, hs, hx, go with
      | [], h2, _, _, _, _ => simp at h2
      | [_], h2, _, _, _, _ => simp at h2
      | a :: b :: r, h2, h3, hs, hx, go =>
        have e1 : w32 (((a :: b :: r).length : Int) + -1) = (b :: r).length := by rw [w32i (by omega) (by omega)]; simp; omega
        have hl1 : ((b :: r).length : Int) = r.length + 1 := by simp
        have hl2 : ((a :: b :: r).length : Int) = r.length + 2 := by simp; omega
        have e2 : w32 (((b :: r).length : Int) - 1) = r.length := by rw [w32i (by omega) (by omega)]; omega
        have em : mcF o.1 = jcF (o.1 - 6) := by
          unfold mcF
          rw [if_neg (by omega), if_neg (by omega), if_neg (by omega), if_neg (by omega)]
        have hj : 37 ≤ jcF (o.1 - 6) := by
          unfold jcF
          (repeat' split) <;> omega
        rw [e1, e2, hs.1, hs.2.1, em]
        refine ⟨fun c => by omega, fun _ => ⟨fun _ => ⟨fun _ => ⟨fun _ => ⟨by omega, by omega, ?_⟩, fun c => by omega⟩, fun c => by omega⟩, fun c => by omega⟩⟩
        refine cm_twoOf (by omega) (by omega) ⟨_, rfl, by omega, ?_⟩
        have c0 : ¬ o.1 = 0 := by omega
        have c1 : ¬ o.1 = 1 := by omega
        have c4 : ¬ o.1 = 4 := by omega
        have c5 : ¬ o.1 = 5 := by omega
        exact go (jnF (o.1 - 6) b a :: r) r.length _ k2 (by simp [stO, c0, c1, c4, c5]) (by simp only [List.length_cons]; omega) h3 (stk_up hs.2.2 rfl) rfl _
end
/-! lines -/
def enL (f g : Int → Int) : Int → LnL → Int → Prop
  | x, [], e => x = e
  | x, (t, b) :: r, e => if t = [] then enO f g x b ∧ f (x + b.length) = 3 ∧ enL f g (x + b.length + 1) r e
      else enO f g x t ∧ f (x + t.length) = 2 ∧ g (x + t.length) = x + t.length + 1 + b.length + 1 ∧ enO f g (x + t.length + 1) b ∧ f (x + t.length + 1 + b.length) = 3 ∧ enL f g (x + t.length + 1 + b.length + 1) r e
def okL (ls : LnL) : Prop := ∀ p ∈ ls, (p.1 = [] ∨ okO p.1 0 1) ∧ okO p.2 0 1
theorem enL_le {f g : Int → Int} : ∀ {ls : LnL} {x e : Int}, enL f g x ls e → x ≤ e := by
  intro ls
  induction ls with
  | nil => intro x e h; have : x = e := h; omega
  | cons p r ih =>
    intro x e h
    obtain ⟨t, b⟩ := p
    unfold enL at h
    split at h
    · have := ih h.2.2; omega
    · have := ih h.2.2.2.2.2; omega
def valL (fa : Int → Int) : LnL → Int
  | [] => 0
  | (t, b) :: r => if t = [] ∨ (runO fa t []).headD 0 ≠ 0 then (runO fa b []).headD 0 else valL fa r
theorem valL_n {fa : Int → Int} {t b : OpL} {r : LnL} (h : ¬ (t = [] ∨ (runO fa t []).headD 0 ≠ 0)) : valL fa ((t, b) :: r) = valL fa r := if_neg h
theorem one_hd {st : List Int} {f : Int → Int} (h : st.length = 1) (hs : stk f st) : f 0 = st.headD 0 := by
  match st, h, hs with
  | [a], _, hs => exact hs.1
section
variable {d l jn : Nat} {fa : Int → Int}
set_option maxHeartbeats 1000000 in
theorem cc_lines {n : Int} (hn : n ≤ 128) {Q : Option AV → AMem → Prop} : ∀ (ls : LnL) (x : Int) (m : AMem), 0 ≤ x → m 3 l 3 = n → (∀ i : Int, 0 ≤ i → i < 6 → m 802 jn i = fa i) → enL (m 400 l) (m 401 l) x ls n → okL ls →
    (∀ m2, FrM [402] m m2 → Q (some (vi (valL fa ls))) m2) → Y cX3_worth 6 RX3 (d + 2) none 4 [some (vr 3 l), some (vr 802 jn), some (vi 0), some (vi x), none, none] [] m Q := by
  intro ls
  induction ls with
  | nil =>
    intro x m h0 hsz _ he _ h
    have he : x = n := he
    exact sg_X3_worth_4 _ _ _ _ _ _ ⟨fun _ => h m (FrM_refl _ _), fun c => by omega⟩
  | cons p r ih =>
    intro x m h0 hsz hfa he hok h
    obtain ⟨t, b⟩ := p
    obtain ⟨hok1, hok2⟩ := hok (t, b) List.mem_cons_self
    have hokr : okL r := fun q hq => hok q (List.mem_cons_of_mem _ hq)
    -- a body, then the answer
    have body : ∀ (y : Int) (m3 : AMem), FrM [402] m m3 → 0 ≤ y → y + b.length + 1 ≤ n → enO (m 400 l) (m 401 l) y b → m 400 l (y + b.length) = 3 → valL fa ((t, b) :: r) = (runO fa b []).headD 0 →
        Y cX3_worth 6 RX3 (d + 2) none 4 [some (vr 3 l), some (vr 802 jn), some (vi 0), some (vi y), none, none] [] m3 Q := by
      intro y m3 hF g0 g1 g2 g3 g4
      have e0 : m3 400 l = m 400 l := FrM_f hF (by decide) (by decide)
      have e1 : m3 401 l = m 401 l := FrM_f hF (by decide) (by decide)
      have e3 : m3 3 l 3 = m 3 l 3 := FrM_n hF (by decide) (by decide)
      refine cc_ops (fa := fa) (n := n) hn b [] y m3 1 (by rw [e3]; exact hsz) (fun i a1 a2 => by rw [FrM_n hF (by decide) (by decide)]; exact hfa i a1 a2) (by simpa using g0) (by omega) (by rw [e0, e1]; exact g2) hok2 trivial ?_
      intro m4 hF4 hs4
      have hl4 := okO_len fa (os := b) (st := []) hok2
      have f0 : m4 400 l = m 400 l := by rw [FrM_f hF4 (by decide) (by decide)]; exact e0
      have f3 : m4 3 l 3 = m 3 l 3 := by rw [FrM_n hF4 (by decide) (by decide)]; exact e3
      rw [hl4]
      refine sg_X3_worth_4 _ _ _ _ _ _ ⟨fun c => by omega, fun c => ⟨by omega, by omega, ?_⟩⟩
      rw [f0, g3]
      refine ⟨fun _ => ⟨fun _ => ⟨fun c => absurd rfl c, fun _ => ?_⟩, fun c => absurd (by decide) c⟩, fun c => absurd (by decide) c⟩
      rw [show w32 (((1 : Nat) : Int) - 1) = 0 by decide +kernel]
      refine ⟨by decide, ?_⟩
      rw [one_hd hl4 hs4, ← g4]
      exact h m4 (FrM_trans hF hF4)
    unfold enL at he
    split at he
    · rename_i ht
      have := enL_le he.2.2
      exact body x m (FrM_refl _ _) h0 (by omega) he.1 he.2.1 (by simp [valL, ht])
    · rename_i ht
      obtain ⟨a1, a2, a3, a4, a5, a6⟩ := he
      have hle := enL_le a6
      refine cc_ops (fa := fa) (n := n) hn t [] x m 1 hsz hfa (by simpa using h0) (by omega) a1 (hok1.resolve_left ht) trivial ?_
      intro m2 hF2 hs2
      have hl2 := okO_len fa (os := t) (st := []) (hok1.resolve_left ht)
      have e0 : m2 400 l = m 400 l := FrM_f hF2 (by decide) (by decide)
      have e1 : m2 401 l = m 401 l := FrM_f hF2 (by decide) (by decide)
      have e3 : m2 3 l 3 = m 3 l 3 := FrM_n hF2 (by decide) (by decide)
      rw [hl2]
      refine sg_X3_worth_4 _ _ _ _ _ _ ⟨fun c => by omega, fun c => ⟨by omega, by omega, ?_⟩⟩
      rw [e0, e1, a2, a3]
      refine ⟨fun _ => ⟨fun _ => ⟨fun _ => ⟨fun c => absurd rfl c, fun _ => ?_⟩, fun c => by omega⟩, fun c => absurd (by decide) c⟩, fun c => absurd (by decide) c⟩
      rw [show w32 (((1 : Nat) : Int) + -1) = 0 by decide +kernel, one_hd hl2 hs2]
      have hw : w32 (x + t.length + 1) = x + t.length + 1 := w32i (by omega) (by omega)
      refine ⟨by decide, fun c => ?_, fun c => ?_⟩
      · rw [hw, Int.max_eq_right (by omega)]
        refine Y_fg (by exact ⟨rfl, rfl, rfl, rfl, trivial⟩) (ih _ m2 (by omega) (by rw [e3]; exact hsz) (fun i b1 b2 => by rw [FrM_n hF2 (by decide) (by decide)]; exact hfa i b1 b2) (by rw [e0, e1]; exact a6) hokr ?_)
        intro m4 hF4
        have ev : valL fa ((t, b) :: r) = valL fa r := by
          have c2 : (runO fa t []).headD 0 = 0 := c
          exact valL_n (fun z => z.elim ht (fun z => z c2))
        rw [← ev]
        exact h m4 (FrM_trans hF2 hF4)
      · rw [hw]
        refine Y_fg (by exact ⟨rfl, rfl, rfl, rfl, trivial⟩) (body _ m2 hF2 (by omega) (by omega) a4 a5 ?_)
        have c2 : ¬ (runO fa t []).headD 0 = 0 := c
        unfold valL
        rw [if_pos (Or.inr c2)]
theorem cc_worth {ls : LnL} {m : AMem} {Q : Option AV → AMem → Prop} (hn : m 3 l 3 ≤ 128) (hfa : ∀ i : Int, 0 ≤ i → i < 6 → m 802 jn i = fa i) (he : enL (m 400 l) (m 401 l) 0 ls (m 3 l 3)) (hok : okL ls) (h : ∀ m2, FrM [402] m m2 → Q (some (vi (valL fa ls))) m2) :
    MtX yX3_worth cX3_worth 6 (some .int) (d + 2) [vr 3 l, vr 802 jn] m Q :=
  Y_met rfl 4 rfl (sg_X3_worth_0 _ _ _ _ (cc_lines (fa := fa) hn ls 0 m (by decide) rfl hfa he hok fun m2 hF => ⟨trivial, h m2 hF⟩))
theorem cm_worked {f0 : Int} {os : OpL} {m : AMem} {Q : Option AV → AMem → Prop} (h0 : 0 ≤ f0) (hn : f0 + os.length ≤ 128) (hfa : ∀ i : Int, 0 ≤ i → i < 6 → m 1324 0 i = fa i) (he : enM (m 1319 0) (m 1320 0) f0 os) (hok : okO os 0 1) (h : ∀ m2, FrM [1325] m m2 → Q (some (vi ((runO fa os []).headD 0))) m2) :
    MtX yX12_worked cX12_worked 7 (some .int) (d + 2) [vr 12 0, vi 0, vi f0, vi (f0 + os.length)] m Q := by
  refine Y_met rfl 3 rfl (sg_X12_worked_0 _ _ _ _ _ ?_)
  have e0 : w32 (w32 (130 * 0) + f0) = f0 := by rw [w32i (z := 130 * 0) (by omega) (by omega), w32i (by omega) (by omega)]; omega
  rw [e0]
  refine cm_ops (fa := fa) (n := f0 + os.length) hn os [] f0 m 1 hfa (by simpa using h0) (by omega) he hok trivial ?_
  intro m2 hF hs
  have hl := okO_len fa (os := os) (st := []) hok
  have e1 : w32 (w32 (130 * 0) + (f0 + os.length)) = f0 + os.length := by rw [w32i (z := 130 * 0) (by omega) (by omega), w32i (by omega) (by omega)]; omega
  refine sg_X12_worked_12 _ _ _ _ _ _ _ ⟨fun _ => ⟨by decide, trivial, ?_⟩, fun c => by omega⟩
  rw [one_hd hl hs]
  exact h m2 hF
def enN (m : AMem) : Int → Int → LnL → Prop
  | y, _, [] => m 1321 0 0 = y
  | y, x, (t, b) :: r => m 1322 0 y = x + t.length ∧ m 1323 0 y = x + t.length + b.length ∧ enM (m 1319 0) (m 1320 0) x (t ++ b) ∧ enN m (y + 1) (x + t.length + b.length) r
theorem enN_le {m : AMem} : ∀ {ls : LnL} {y x : Int}, enN m y x ls → m 1321 0 0 = y + ls.length := by
  intro ls
  induction ls with
  | nil => intro y x h; have h : m 1321 0 0 = y := h; simp [h]
  | cons p r ih =>
    intro y x h
    obtain ⟨t, b⟩ := p
    have := ih h.2.2.2
    simp only [List.length_cons]
    omega
/-- all operations together -/
def lenL : LnL → Nat
  | [] => 0
  | (t, b) :: r => t.length + b.length + lenL r
theorem enN_fr {m m2 : AMem} (hF : FrM [1325] m m2) : ∀ {ls : LnL} {y x : Int}, enN m y x ls → enN m2 y x ls := by
  have e0 : m2 1319 0 = m 1319 0 := FrM_f hF (by decide) (by decide)
  have e1 : m2 1320 0 = m 1320 0 := FrM_f hF (by decide) (by decide)
  have e2 : m2 1321 0 = m 1321 0 := FrM_f hF (by decide) (by decide)
  have e3 : m2 1322 0 = m 1322 0 := FrM_f hF (by decide) (by decide)
  have e4 : m2 1323 0 = m 1323 0 := FrM_f hF (by decide) (by decide)
  intro ls
  induction ls with
  | nil => intro y x h; show m2 1321 0 0 = y; rw [e2]; exact h
  | cons p r ih =>
    intro y x h
    obtain ⟨t, b⟩ := p
    obtain ⟨h1, h2, h3, h4⟩ := h
    exact ⟨by rw [e3]; exact h1, by rw [e4]; exact h2, by rw [e0, e1]; exact h3, ih h4⟩
set_option maxHeartbeats 1000000 in
theorem cm_lines {Q : Option AV → AMem → Prop} : ∀ (ls : LnL) (y x : Int) (m : AMem), 0 ≤ y → 0 ≤ x → x + lenL ls ≤ 128 → m 1321 0 0 ≤ 61 → (∀ i : Int, 0 ≤ i → i < 6 → m 1324 0 i = fa i) → enN m y x ls → okL ls →
    (∀ m2, FrM [1325] m m2 → Q (some (vi (valL fa ls))) m2) → Y cX12_gives 4 RX12 (d + 3) none 7 [some (vr 12 0), some (vi 0), some (vi x), some (vi y)] [] m Q := by
  intro ls
  induction ls with
  | nil =>
    intro y x m h0 _ _ h61 _ he _ h
    have he : m 1321 0 0 = y := he
    refine sg_X12_gives_7 _ _ _ _ _ ⟨by decide, ?_⟩
    rw [show w32 (61 * 0) = 0 by decide +kernel, w32i (z := 0 + m 1321 0 0) (by omega) (by omega)]
    exact ⟨fun _ => h m (FrM_refl _ _), fun c => by omega⟩
  | cons p r ih =>
    intro y x m h0 hx hlen h61 hfa he hok h
    obtain ⟨t, b⟩ := p
    obtain ⟨hok1, hok2⟩ := hok (t, b) List.mem_cons_self
    have hokr : okL r := fun q hq => hok q (List.mem_cons_of_mem _ hq)
    have hcnt := enN_le he
    obtain ⟨h1, h2, h3, h4⟩ := he
    obtain ⟨h5, h6⟩ := enM_app h3
    have hlen : x + (t.length + b.length + lenL r : Nat) ≤ 128 := hlen
    have hcnt : m 1321 0 0 = y + (r.length + 1 : Nat) := hcnt
    refine sg_X12_gives_7 _ _ _ _ _ ⟨by decide, ?_⟩
    rw [show w32 (61 * 0) = 0 by decide +kernel, w32i (z := 0 + m 1321 0 0) (by omega) (by omega)]
    refine ⟨fun c => by omega, fun c => ⟨by omega, ?_⟩⟩
    rw [h1]
    refine ⟨fun c2 => ⟨by omega, by omega, ?_⟩, fun c2 => ⟨by omega, ?_⟩⟩
    · have ht : t = [] := List.eq_nil_of_length_eq_zero (by omega)
      rw [h2]
      refine cm_worked (fa := fa) (by omega) (by omega) hfa h6 hok2 fun m2 hF => ⟨_, rfl, ?_⟩
      have ev : valL fa ((t, b) :: r) = (runO fa b []).headD 0 := by unfold valL; rw [if_pos (Or.inl ht)]
      rw [← ev]
      exact h m2 hF
    · have ht : ¬ t = [] := fun z => c2 (by rw [z]; simp)
      refine cm_worked (fa := fa) hx (by omega) hfa h5 (hok1.resolve_left ht) fun m2 hF => ⟨_, rfl, ?_⟩
      have e3 : m2 1322 0 y = m 1322 0 y := FrM_n hF (by decide) (by decide)
      have e4 : m2 1323 0 y = m 1323 0 y := FrM_n hF (by decide) (by decide)
      have e0 : m2 1319 0 = m 1319 0 := FrM_f hF (by decide) (by decide)
      have e1 : m2 1320 0 = m 1320 0 := FrM_f hF (by decide) (by decide)
      rw [e3, e4, h1, h2]
      refine ⟨fun c3 => ⟨by omega, ?_⟩, fun c3 => ⟨by omega, by omega, ?_⟩⟩
      · rw [w32i (by omega) (by omega)]
        refine ih (y + 1) _ m2 (by omega) (by omega) (by omega) (by rw [FrM_n hF (by decide) (by decide)]; exact h61) (fun i b1 b2 => by rw [FrM_n hF (by decide) (by decide)]; exact hfa i b1 b2) (enN_fr hF h4) hokr ?_
        intro m4 hF4
        have ev : valL fa ((t, b) :: r) = valL fa r := by
          exact valL_n (fun z => z.elim ht (fun z => z c3))
        rw [← ev]
        exact h m4 (FrM_trans hF hF4)
      · refine cm_worked (fa := fa) (by omega) (by omega) (fun i b1 b2 => by rw [FrM_n hF (by decide) (by decide)]; exact hfa i b1 b2) (by rw [e0, e1]; exact h6) hok2 fun m4 hF4 => ⟨_, rfl, ?_⟩
        have ev : valL fa ((t, b) :: r) = (runO fa b []).headD 0 := by
          unfold valL
          rw [if_pos (Or.inr c3)]
        rw [← ev]
        exact h m4 (FrM_trans hF hF4)
theorem cm_gives {ls : LnL} {m : AMem} {Q : Option AV → AMem → Prop} (hlen : lenL ls ≤ 128) (h61 : m 1321 0 0 ≤ 61) (hfa : ∀ i : Int, 0 ≤ i → i < 6 → m 1324 0 i = fa i) (he : enN m 0 0 ls) (hok : okL ls) (h : ∀ m2, FrM [1325] m m2 → Q (some (vi (valL fa ls))) m2) :
    MtX yX12_gives cX12_gives 4 (some .int) (d + 3) [vr 12 0, vi 0] m Q := by
  refine Y_met rfl 2 rfl (sg_X12_gives_0 _ _ _ ?_)
  rw [show w32 (61 * 0) = 0 by decide +kernel]
  exact cm_lines (fa := fa) ls 0 0 m (by decide) (by decide) (by omega) h61 hfa he hok fun m2 hF => ⟨trivial, h m2 hF⟩
end
