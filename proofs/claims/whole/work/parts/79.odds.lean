/-! odds -/
def od2 (t a b : Int) : Int := Int.tdiv (t * a + (12 - t) * b) 12
def od3 (w l a b c : Int) : Int := Int.tdiv (w * a + min l (12 - w) * b + (12 - w - min l (12 - w)) * c) 12
def rM (a : Int) : Prop := 0 ≤ a ∧ a ≤ 1000000
theorem mul_rg {w a : Int} (hw : 0 ≤ w) (ha : rM a) : 0 ≤ w * a ∧ w * a ≤ w * 1000000 := ⟨Int.mul_nonneg hw ha.1, Int.mul_le_mul_of_nonneg_left ha.2 hw⟩
theorem td12 {x : Int} (h : 0 ≤ x) : Int.tdiv x 12 = x / 12 := Int.tdiv_eq_ediv_of_nonneg h
theorem od2_all {t a b : Int} (ht : 0 ≤ t ∧ t ≤ 12) (ha : rM a) (hb : rM b) : rM (od2 t a b) ∧ w32 (Int.tdiv (w32 (w32 (t * a) + w32 (w32 (12 - t) * b))) 12) = od2 t a b ∧ w32 (w64 (Int.tdiv (w64 (w64 (t * a) + w64 (w32 (12 - t) * b))) 12)) = od2 t a b := by
  have h1 := mul_rg ht.1 ha
  have h2 := mul_rg (w := 12 - t) (by omega) hb
  have hs : 0 ≤ t * a + (12 - t) * b ∧ t * a + (12 - t) * b ≤ 12000000 := by omega
  have hr : rM (od2 t a b) := by
    unfold od2 rM
    rw [td12 hs.1]
    omega
  refine ⟨hr, ?_, ?_⟩
  · rw [w32i (z := 12 - t) (by omega) (by omega), w32i (z := t * a) (by omega) (by omega), w32i (z := (12 - t) * b) (by omega) (by omega), w32i (z := t * a + (12 - t) * b) (by omega) (by omega)]
    have := hr
    unfold rM od2 at this
    exact w32i (by omega) (by omega)
  · rw [w32i (z := 12 - t) (by omega) (by omega), wl_i (z := t * a) (by omega) (by omega), wl_i (z := (12 - t) * b) (by omega) (by omega), wl_i (z := t * a + (12 - t) * b) (by omega) (by omega)]
    have := hr
    unfold rM od2 at this
    rw [wl_i (z := Int.tdiv (t * a + (12 - t) * b) 12) (by omega) (by omega)]
    exact w32i (by omega) (by omega)
theorem od3_all {w l a b c X Y : Int} (hw : 0 ≤ w ∧ w ≤ 12) (hl : 0 ≤ l ∧ l ≤ 12) (ha : rM a) (hb : rM b) (hc : rM c) (hX : X = min l (12 - w)) (hY : Y = 12 - w - X) : rM (od3 w l a b c) ∧ w32 (Int.tdiv (w32 (w32 (w32 (w * a) + w32 (X * b)) + w32 (Y * c))) 12) = od3 w l a b c ∧ w32 (w64 (Int.tdiv (w64 (w64 (w64 (w * a) + w64 (X * b)) + w64 (Y * c))) 12)) = od3 w l a b c := by
  have e : od3 w l a b c = Int.tdiv (w * a + X * b + Y * c) 12 := by unfold od3; rw [hY, hX]
  have h1 := mul_rg hw.1 ha
  have h2 := mul_rg (w := X) (by omega) hb
  have h3 := mul_rg (w := Y) (by omega) hc
  have hs : 0 ≤ w * a + X * b + Y * c ∧ w * a + X * b + Y * c ≤ 12000000 := by omega
  have hr : rM (Int.tdiv (w * a + X * b + Y * c) 12) := by
    unfold rM
    rw [td12 hs.1]
    omega
  rw [e]
  have hr2 := hr
  unfold rM at hr2
  refine ⟨hr, ?_, ?_⟩
  · rw [w32i (z := w * a) (by omega) (by omega), w32i (z := X * b) (by omega) (by omega), w32i (z := Y * c) (by omega) (by omega), w32i (z := w * a + X * b) (by omega) (by omega), w32i (z := w * a + X * b + Y * c) (by omega) (by omega)]
    exact w32i (by omega) (by omega)
  · rw [wl_i (z := w * a) (by omega) (by omega), wl_i (z := X * b) (by omega) (by omega), wl_i (z := Y * c) (by omega) (by omega), wl_i (z := w * a + X * b) (by omega) (by omega), wl_i (z := w * a + X * b + Y * c) (by omega) (by omega), wl_i (z := Int.tdiv (w * a + X * b + Y * c) 12) (by omega) (by omega)]
    exact w32i (by omega) (by omega)
/-- o: 9 deep, 10 lost, 11 short, 12 away, 13 theirs -/
def oV (o : StR) (th : Int) : Nat → Int → Int → Int
  | 0, v, _ => if 0 < v then 1000000 else if v = 0 then 500000 else 0
  | k + 1, v, e =>
    let g := fun v e => od2 (o 13) (oV o th k (v - 1) e) (oV o th k v e)
    let em := if th = 0 then g v 0 else if e = 2 then g (v - 1) 0 else g v (e + 1)
    max (od3 (o 9) (o 10) (g (v + 1) 0) (g (v - 1) 0) em) (od3 (o 11) (o 12) (g (v + 1) 0) (g (v - 1) 0) em)
def oG (o : StR) (th : Int) (k : Nat) (v e : Int) : Int := od2 (o 13) (oV o th k (v - 1) e) (oV o th k v e)
def oE (o : StR) (th : Int) (k : Nat) (v e : Int) : Int := if th = 0 then oG o th k v 0 else if e = 2 then oG o th k (v - 1) 0 else oG o th k v (e + 1)
def oDp (o : StR) (th : Int) (k : Nat) (v e : Int) : Int := od3 (o 9) (o 10) (oG o th k (v + 1) 0) (oG o th k (v - 1) 0) (oE o th k v e)
def oSh (o : StR) (th : Int) (k : Nat) (v e : Int) : Int := od3 (o 11) (o 12) (oG o th k (v + 1) 0) (oG o th k (v - 1) 0) (oE o th k v e)
theorem oV_s {o : StR} {th : Int} {k : Nat} {v e : Int} : oV o th (k + 1) v e = max (oDp o th k v e) (oSh o th k v e) := rfl
theorem oV_0 {o : StR} {th v e : Int} : oV o th 0 v e = if 0 < v then 1000000 else if v = 0 then 500000 else 0 := rfl
def oOk (o : StR) : Prop := ∀ i : Int, 9 ≤ i → i ≤ 13 → 0 ≤ o i ∧ o i ≤ 12
theorem oV_rg {o : StR} {th : Int} (ho : oOk o) : ∀ (k : Nat) (v e : Int), rM (oV o th k v e) := by
  intro k
  induction k with
  | zero =>
    intro v e
    rw [oV_0]
    unfold rM
    (repeat' split) <;> omega
  | succ k ih =>
    intro v e
    have hg : ∀ v e, rM (oG o th k v e) := fun v e => (od2_all (ho 13 (by decide) (by decide)) (ih (v - 1) e) (ih v e)).1
    have he : rM (oE o th k v e) := by
      unfold oE
      (repeat' split) <;> exact hg _ _
    have h1 := (od3_all (ho 9 (by decide) (by decide)) (ho 10 (by decide) (by decide)) (hg (v + 1) 0) (hg (v - 1) 0) he rfl rfl).1
    have h2 := (od3_all (ho 11 (by decide) (by decide)) (ho 12 (by decide) (by decide)) (hg (v + 1) 0) (hg (v - 1) 0) he rfl rfl).1
    rw [oV_s]
    unfold rM at h1 h2 ⊢
    unfold oDp oSh
    omega
theorem oG_rg {o : StR} {th : Int} (ho : oOk o) (k : Nat) (v e : Int) : rM (oG o th k v e) := (od2_all (ho 13 (by decide) (by decide)) (oV_rg ho k (v - 1) e) (oV_rg ho k v e)).1
theorem oE_rg {o : StR} {th : Int} (ho : oOk o) (k : Nat) (v e : Int) : rM (oE o th k v e) := by
  unfold oE
  (repeat' split) <;> exact oG_rg ho _ _ _
theorem oV_e {o : StR} {th : Int} (h : th = 0) : ∀ (k : Nat) (v e : Int), oV o th k v e = oV o th k v 0 := by
  intro k
  induction k with
  | zero => intro v e; rfl
  | succ k ih =>
    intro v e
    rw [oV_s, oV_s]
    unfold oDp oSh oE
    rw [if_pos h, if_pos h]
theorem oG_e {o : StR} {th : Int} (h : th = 0) (k : Nat) (v e : Int) : oG o th k v e = oG o th k v 0 := by
  unfold oG
  rw [oV_e h k (v - 1) e, oV_e h k v e]
section
variable {d : Nat} {o : StR} {th : Int} {Q : Option AV → AMem → Prop}
/-- the row of leads of the class, behind k raids each -/
def ahd (m : AMem) (o : StR) (th : Int) (n k : Nat) (b : Int) : Prop := ∀ e q : Int, 0 ≤ e → e ≤ 2 → 2 * k ≤ q → q ≤ 3 * n - k → m 700 0 (61 * e + q) = oV o th k (b + q) e
def tgo (m : AMem) (o : StR) (th : Int) (n k : Nat) (b : Int) : Prop := ∀ e q : Int, 0 ≤ e → e ≤ 2 → 2 * k + 1 ≤ q → q ≤ 3 * n - k → m 701 0 (61 * e + q) = oG o th k (b + q) e
theorem cc_their {m0 : AMem} {n k : Nat} {b : Int} (ho : oOk o) (hn : n ≤ 20) (hk : k < n) (hA : ahd m0 o th n k b) (h : ∀ m2, FrM [701] m0 m2 → tgo m2 o th n k b → Q none m2) : MtX yX6_theirTurn cX6_theirTurn 7 none (d + 1) [vr 6 0, vi (o 13), vi (2 * k + 1), vi (3 * n - k)] m0 Q := by
  have outer : ∀ (r e : Nat) (m : AMem), e + r = 3 → FrM [701] m0 m → (∀ x q : Int, 0 ≤ x → x < e → 2 * k + 1 ≤ q → q ≤ 3 * n - k → m 701 0 (61 * x + q) = oG o th k (b + q) x) → Y cX6_theirTurn 7 RX6 (d + 1) none 3 [some (vr 6 0), some (vi (o 13)), some (vi (2 * k + 1)), some (vi (3 * n - k)), some (vi e), none, none] [] m (fun r mem2 => rk none r ∧ Q r mem2) := by
    intro r
    induction r with
    | zero =>
      intro e m he hF hD
      exact sg_X6_theirTurn_3 _ _ _ _ _ _ ⟨fun _ => ⟨trivial, h m hF fun x q x0 x1 q0 q1 => hD x q x0 (by omega) q0 q1⟩, fun c => by omega⟩
    | succ r ih =>
      intro e m he hF hD
      refine sg_X6_theirTurn_3 _ _ _ _ _ _ ⟨fun c => by omega, fun _ => ?_⟩
      have inner : ∀ (s : Nat) (p : Int) (mm : AMem), p + s = 3 * n - k + 1 → 2 * k + 1 ≤ p → FrM [701] m0 mm → (∀ x q : Int, 0 ≤ x → (x < e ∨ (x = e ∧ q < p)) → 2 * k + 1 ≤ q → q ≤ 3 * n - k → mm 701 0 (61 * x + q) = oG o th k (b + q) x) → Y cX6_theirTurn 7 RX6 (d + 1) none 12 [some (vr 6 0), some (vi (o 13)), some (vi (2 * k + 1)), some (vi (3 * n - k)), some (vi e), some (vi p), none] [] mm (fun r mem2 => rk none r ∧ Q r mem2) := by
        intro s
        induction s with
        | zero =>
          intro p mm hp hp0 hF hD
          refine sg_X6_theirTurn_12 _ _ _ _ _ _ _ ⟨fun _ => ?_, fun c => by omega⟩
          rw [w32n (by omega)]
          exact Y_fg (by exact ⟨rfl, rfl, rfl, rfl, rfl, trivial⟩) (ih (e + 1) mm (by omega) hF fun x q x0 x1 q0 q1 => hD x q x0 (by omega) q0 q1)
        | succ s ihs =>
          intro p mm hp hp0 hF hD
          have a1 : mm 700 0 (61 * e + (p - 1)) = oV o th k (b + (p - 1)) e := by rw [FrM_n hF (by decide) (by decide)]; exact hA e (p - 1) (by omega) (by omega) (by omega) (by omega)
          have a2 : mm 700 0 (61 * e + p) = oV o th k (b + p) e := by rw [FrM_n hF (by decide) (by decide)]; exact hA e p (by omega) (by omega) (by omega) (by omega)
          refine sg_X6_theirTurn_12 _ _ _ _ _ _ _ ⟨fun c => by omega, fun _ => ?_⟩
          rw [w32i (z := (e : Int) * 61) (by omega) (by omega), w32i (z := (e : Int) * 61 + p) (by omega) (by omega), w32i (z := (e : Int) * 61 + p - 1) (by omega) (by omega), w32i (z := p + 1) (by omega) (by omega), show (e : Int) * 61 + p - 1 = 61 * e + (p - 1) by omega, show (e : Int) * 61 + p = 61 * e + p by omega, a1, a2, (od2_all (ho 13 (by decide) (by decide)) (oV_rg ho k (b + (p - 1)) e) (oV_rg ho k (b + p) e)).2.1]
          refine ⟨by omega, by omega, by omega, Y_fg (by exact ⟨rfl, rfl, rfl, rfl, rfl, rfl, trivial⟩) (ihs (p + 1) _ (by omega) (by omega) (FrM_uk hF (by decide) (by decide)) fun x q x0 x1 q0 q1 => ?_)⟩
          rw [up_eq]
          by_cases c : x = e ∧ q = p
          · rw [if_pos (by omega), c.1, c.2]
            unfold oG
            rw [show b + p - 1 = b + (p - 1) by omega]
          · rw [if_neg (by omega)]
            exact hD x q x0 (by omega) q0 q1
      exact inner (3 * n - k + 1 - (2 * k + 1)) (2 * k + 1) m (by omega) (by omega) hF fun x q x0 x1 q0 q1 => hD x q x0 (by omega) q0 q1
  exact Y_met rfl 3 rfl (sg_X6_theirTurn_0 _ _ _ _ _ (outer 3 0 m0 (by decide) (FrM_refl _ _) fun x q x0 x1 => by omega))
theorem cc_ifE {m : AMem} {n k : Nat} {b e q : Int} (hn : n ≤ 20) (hk : k < n) (hT : tgo m o th n k b) (he : 0 ≤ e ∧ e ≤ 2) (hq : 2 * k + 2 ≤ q ∧ q ≤ 3 * n - k - 1) (h : Q (some (vi (oE o th k (b + q) e))) m) : MtX yX6_ifEmpty cX6_ifEmpty 4 (some .int) (d + 1) [vr 6 0, vi e, vi q, vi th] m Q := by
  unfold oE at h
  refine Y_met rfl 0 rfl (sg_X6_ifEmpty_0 _ _ _ _ _ ?_)
  rw [w32i (z := e + 1) (by omega) (by omega), w32i (z := (e + 1) * 61) (by omega) (by omega), w32i (z := (e + 1) * 61 + q) (by omega) (by omega), w32i (z := q - 1) (by omega) (by omega), w32i (z := e * 61) (by omega) (by omega), w32i (z := e * 61 + q) (by omega) (by omega)]
  refine ⟨fun c => ⟨fun c2 => ⟨by omega, trivial, ?_⟩, fun c2 => ⟨by omega, trivial, ?_⟩⟩, fun c => ⟨by omega, trivial, ?_⟩⟩
  · rw [if_neg c, if_neg c2] at h
    rw [show (e + 1) * 61 + q = 61 * (e + 1) + q by omega, hT (e + 1) q (by omega) (by omega) (by omega) (by omega)]
    exact h
  · rw [if_neg c, if_pos c2] at h
    have := hT 0 (q - 1) (by omega) (by omega) (by omega) (by omega)
    rw [show (61 : Int) * 0 + (q - 1) = q - 1 by omega, show b + (q - 1) = b + q - 1 by omega] at this
    rw [this]
    exact h
  · rw [if_pos c] at h
    rw [show e * 61 + q = 61 * e + q by omega, hT e q (by omega) (by omega) (by omega) (by omega), oG_e c]
    exact h
theorem cc_ofR {m : AMem} {n k : Nat} {b q w l c : Int} (ho : oOk o) (hn : n ≤ 20) (hk : k < n) (hT : tgo m o th n k b) (hw : 0 ≤ w ∧ w ≤ 12) (hl : 0 ≤ l ∧ l ≤ 12) (hc : rM c) (hq : 2 * k + 2 ≤ q ∧ q ≤ 3 * n - k - 1) (h : Q (some (vi (od3 w l (oG o th k (b + q + 1) 0) (oG o th k (b + q - 1) 0) c))) m) : MtX yX6_ofRaid cX6_ofRaid 7 (some .int) (d + 1) [vr 6 0, vi w, vi l, vi q, vi c] m Q := by
  have t1 := hT 0 (q + 1) (by omega) (by omega) (by omega) (by omega)
  have t2 := hT 0 (q - 1) (by omega) (by omega) (by omega) (by omega)
  rw [show (61 : Int) * 0 + (q + 1) = q + 1 by omega, show b + (q + 1) = b + q + 1 by omega] at t1
  rw [show (61 : Int) * 0 + (q - 1) = q - 1 by omega, show b + (q - 1) = b + q - 1 by omega] at t2
  refine Y_met rfl 2 rfl (sg_X6_ofRaid_0 _ _ _ _ _ _ ?_)
  rw [w32i (z := q + 1) (by omega) (by omega), w32i (z := q - 1) (by omega) (by omega), w32i (z := 12 - w) (by omega) (by omega), w32i (z := 12 - w - min l (12 - w)) (by omega) (by omega), t1, t2]
  rw [(od3_all (X := min l (12 - w)) (Y := 12 - w - min l (12 - w)) hw hl (oG_rg (th := th) ho k (b + q + 1) 0) (oG_rg (th := th) ho k (b + q - 1) 0) hc rfl rfl).2.1]
  exact ⟨by omega, by omega, trivial, h⟩
set_option maxHeartbeats 1000000 in
theorem cc_our {m0 : AMem} {n k : Nat} {b em : Int} (ho : oOk o) (hn : n ≤ 20) (hk : k < n) (hT : tgo m0 o th n k b) (hem : 0 ≤ em ∧ em ≤ 2) (h3 : m0 303 0 9 = o 9 ∧ m0 303 0 10 = o 10 ∧ m0 303 0 11 = o 11 ∧ m0 303 0 12 = o 12) (h : ∀ m2, FrM [700, 6] m0 m2 → ahd m2 o th n (k + 1) b → m2 6 0 3 = (if oSh o th k (b + (3 * n - k - 1)) em < oDp o th k (b + (3 * n - k - 1)) em then 1 else 0) → Q none m2) : MtX yX6_ourTurn cX6_ourTurn 12 none (d + 2) [vr 6 0, vr 2 0, vi (2 * k + 2), vi (3 * n - k - 1), vi th, vi em] m0 Q := by
  have outer : ∀ (r e : Nat) (m : AMem), e + r = 3 → FrM [700, 6] m0 m → (∀ x q : Int, 0 ≤ x → x < e → 2 * k + 2 ≤ q → q ≤ 3 * n - k - 1 → m 700 0 (61 * x + q) = oV o th (k + 1) (b + q) x) → (em < e → m 6 0 3 = (if oSh o th k (b + (3 * n - k - 1)) em < oDp o th k (b + (3 * n - k - 1)) em then 1 else 0)) → Y cX6_ourTurn 12 RX6 (d + 2) none 9 [some (vr 6 0), some (vr 2 0), some (vi (2 * k + 2)), some (vi (3 * n - k - 1)), some (vi th), some (vi em), some (vr 303 0), some (vi e), none, none, none, none] [] m (fun r mem2 => rk none r ∧ Q r mem2) := by
    intro r
    induction r with
    | zero =>
      intro e m he hF hD hC
      exact sg_X6_ourTurn_9 _ _ _ _ _ _ _ ⟨fun _ => ⟨trivial, h m hF (fun x q x0 x1 q0 q1 => hD x q x0 (by omega) (by omega) (by omega)) (hC (by omega))⟩, fun c => by omega⟩
    | succ r ih =>
      intro e m he hF hD hC
      refine sg_X6_ourTurn_9 _ _ _ _ _ _ _ ⟨fun c => by omega, fun _ => ?_⟩
      have inner : ∀ (s : Nat) (p : Int) (mm : AMem), p + s = 3 * n - k → 2 * k + 2 ≤ p → FrM [700, 6] m0 mm → (∀ x q : Int, 0 ≤ x → (x < e ∨ (x = e ∧ q < p)) → 2 * k + 2 ≤ q → q ≤ 3 * n - k - 1 → mm 700 0 (61 * x + q) = oV o th (k + 1) (b + q) x) → ((em < e ∨ (em = e ∧ 2 * k + 2 < p)) → mm 6 0 3 = (if em < e then (if oSh o th k (b + (3 * n - k - 1)) em < oDp o th k (b + (3 * n - k - 1)) em then 1 else 0) else (if oSh o th k (b + (p - 1)) em < oDp o th k (b + (p - 1)) em then 1 else 0))) → Y cX6_ourTurn 12 RX6 (d + 2) none 18 [some (vr 6 0), some (vr 2 0), some (vi (2 * k + 2)), some (vi (3 * n - k - 1)), some (vi th), some (vi em), some (vr 303 0), some (vi e), some (vi p), none, none, none] [] mm (fun r mem2 => rk none r ∧ Q r mem2) := by
        intro s
        induction s with
        | zero =>
          intro p mm hp hp0 hF hD hC2
          refine sg_X6_ourTurn_18 _ _ _ _ _ _ _ _ ⟨fun _ => ?_, fun c => by omega⟩
          rw [w32n (by omega)]
          refine Y_fg (by exact ⟨rfl, rfl, rfl, rfl, rfl, rfl, rfl, rfl, trivial⟩) (ih (e + 1) mm (by omega) hF (fun x q x0 x1 q0 q1 => hD x q x0 (by omega) q0 q1) fun q => ?_)
          have := hC2 (by omega)
          by_cases c : em < e
          · rw [if_pos c] at this; exact this
          · rw [if_neg c, show p - 1 = 3 * (n : Int) - k - 1 by omega] at this; exact this
        | succ s ihs =>
          intro p mm hp hp0 hF hD hC2
          have hT2 : tgo mm o th n k b := fun x q x0 x1 q0 q1 => by rw [FrM_n hF (by decide) (by decide)]; exact hT x q x0 x1 q0 q1
          have f3 : ∀ i, mm 303 0 i = m0 303 0 i := fun i => FrM_n hF (by decide) (by decide)
          refine sg_X6_ourTurn_18 _ _ _ _ _ _ _ _ ⟨fun c => by omega, fun _ => cc_ifE hn hk hT2 (by omega) (by omega) ⟨_, rfl, by decide, by decide, ?_⟩⟩
          rw [f3, f3, h3.1, h3.2.1]
          refine cc_ofR ho hn hk hT2 (ho 9 (by decide) (by decide)) (ho 10 (by decide) (by decide)) (oE_rg ho k (b + p) e) (by omega) ⟨_, rfl, by decide, by decide, ?_⟩
          rw [f3, f3, h3.2.2.1, h3.2.2.2]
          refine cc_ofR ho hn hk hT2 (ho 11 (by decide) (by decide)) (ho 12 (by decide) (by decide)) (oE_rg ho k (b + p) e) (by omega) ⟨_, rfl, ?_⟩
          have eD : od3 (o 9) (o 10) (oG o th k (b + p + 1) 0) (oG o th k (b + p - 1) 0) (oE o th k (b + p) e) = oDp o th k (b + p) e := rfl
          have eS : od3 (o 11) (o 12) (oG o th k (b + p + 1) 0) (oG o th k (b + p - 1) 0) (oE o th k (b + p) e) = oSh o th k (b + p) e := rfl
          rw [eD, eS, w32i (z := (e : Int) * 61) (by omega) (by omega), w32i (z := (e : Int) * 61 + p) (by omega) (by omega), w32i (z := p + 1) (by omega) (by omega), show (e : Int) * 61 + p = 61 * e + p by omega, ← oV_s]
          have hF1 : FrM [700, 6] m0 (upM mm 700 0 (61 * e + p) (oV o th (k + 1) (b + p) e)) := FrM_uk hF (by decide) (by decide)
          have hD1 : ∀ (m3 : AMem), (∀ i, m3 700 0 i = upM mm 700 0 (61 * e + p) (oV o th (k + 1) (b + p) e) 700 0 i) → ∀ x q : Int, 0 ≤ x → (x < e ∨ (x = e ∧ q < p + 1)) → 2 * k + 2 ≤ q → q ≤ 3 * n - k - 1 → m3 700 0 (61 * x + q) = oV o th (k + 1) (b + q) x := by
            intro m3 hm3 x q x0 x1 q0 q1
            rw [hm3, up_eq]
            by_cases c : x = e ∧ q = p
            · rw [if_pos (by omega), c.1, c.2]
            · rw [if_neg (by omega)]
              exact hD x q x0 (by omega) q0 q1
          refine ⟨by omega, fun c => ?_, fun c => ⟨fun c2 => ?_, fun c2 => ?_⟩⟩
          · refine Y_fg (by exact ⟨rfl, rfl, rfl, rfl, rfl, rfl, rfl, rfl, rfl, trivial⟩) (ihs (p + 1) _ (by omega) (by omega) hF1 (hD1 _ fun i => rfl) fun q => ?_)
            rw [up_k (by decide)]
            have := hC2 (by omega)
            rw [if_pos (by omega)] at this ⊢
            exact this
          · refine Y_fg (by exact ⟨rfl, rfl, rfl, rfl, rfl, rfl, rfl, rfl, rfl, trivial⟩) (ihs (p + 1) _ (by omega) (by omega) (FrM_uk hF1 (by decide) (by decide)) (hD1 _ fun i => up_k (by decide)) fun q => ?_)
            rw [up_s, if_neg (by omega), show p + 1 - 1 = p by omega, ← c, if_neg (by omega)]
          · refine Y_fg (by exact ⟨rfl, rfl, rfl, rfl, rfl, rfl, rfl, rfl, rfl, trivial⟩) (ihs (p + 1) _ (by omega) (by omega) (FrM_uk hF1 (by decide) (by decide)) (hD1 _ fun i => up_k (by decide)) fun q => ?_)
            rw [up_s, if_neg (by omega), show p + 1 - 1 = p by omega, ← c, if_pos (by omega)]
      exact inner (3 * n - k - (2 * k + 2)) (2 * k + 2) m (by omega) (by omega) hF (fun x q x0 x1 q0 q1 => hD x q x0 (by omega) q0 q1) fun q => by
        have c : em < e := by omega
        rw [if_pos c]
        exact hC c
  exact Y_met rfl 6 rfl (sg_X6_ourTurn_0 _ _ _ _ _ _ (outer 3 0 m0 (by decide) (FrM_refl _ _) (fun x q x0 x1 => by omega) fun c => by omega))
def oCh (o : StR) (th : Int) (n : Nat) (v e : Int) : Int := match n with
  | 0 => 0
  | k + 1 => if oSh o th k v e < oDp o th k v e then 1 else 0
theorem cc_weigh {m0 : AMem} {n : Nat} {lead em : Int} (ho : oOk o) (hn : n ≤ 20) (hl : -30 ≤ lead ∧ lead ≤ 30) (hem : 0 ≤ em ∧ em ≤ 2) (h3 : ∀ i : Int, 9 ≤ i → i ≤ 13 → m0 303 0 i = o i) (h : ∀ m2, FrM [700, 701, 6] m0 m2 → m2 6 0 2 = oV o th n lead em → m2 6 0 3 = oCh o th n lead em → Q none m2) : MtX yX6_weigh cX6_weigh 10 none (d + 3) [vr 6 0, vr 2 0, vi n, vi lead, vi em, vi th] m0 Q := by
  -- the rounds
  have rounds : ∀ (r k : Nat) (m : AMem), k + r = n → FrM [700, 701, 6] m0 m → ahd m o th n k (lead - 2 * n) → (k = 0 → m 6 0 3 = 0) → (k = n → 0 < k → m 6 0 3 = oCh o th n lead em) → Y cX6_weigh 10 RX6 (d + 3) none 88 [some (vr 6 0), some (vr 2 0), some (vi n), some (vi lead), some (vi em), some (vi th), some (vi (3 * n)), some (vi (k + 1)), none, none] [] m (fun r mem2 => rk none r ∧ Q r mem2) := by
    intro r
    induction r with
    | zero =>
      intro k m hk hF hA h0 hc
      have e : k = n := by omega
      subst e
      refine sg_X6_weigh_88 _ _ _ _ _ _ _ _ ⟨fun _ => ?_, fun c => by omega⟩
      rw [w32i (z := em * 61) (by omega) (by omega), w32i (z := 2 * (k : Int)) (by omega) (by omega), w32i (z := em * 61 + 2 * (k : Int)) (by omega) (by omega), show em * 61 + 2 * (k : Int) = 61 * em + 2 * k by omega, hA em (2 * k) hem.1 hem.2 (by omega) (by omega), show lead - 2 * (k : Int) + 2 * k = lead by omega]
      refine ⟨by omega, trivial, h _ (FrM_uk hF (by decide) (by decide)) up_s ?_⟩
      rw [up_i (by decide)]
      by_cases e0 : k = 0
      · rw [h0 e0, e0]; rfl
      · exact hc rfl (by omega)
    | succ r ih =>
      intro k m hk hF hA h0 hc
      have f3 : ∀ i : Int, 9 ≤ i → i ≤ 13 → m 303 0 i = o i := fun i g0 g1 => by rw [FrM_n hF (by decide) (by decide)]; exact h3 i g0 g1
      refine sg_X6_weigh_88 _ _ _ _ _ _ _ _ ⟨fun c => by omega, fun _ => ⟨by decide, ?_⟩⟩
      rw [f3 13 (by decide) (by decide), w32i (z := 2 * ((k : Int) + 1)) (by omega) (by omega), w32i (z := 2 * ((k : Int) + 1) - 1) (by omega) (by omega), w32i (z := 3 * (n : Int) - (k + 1)) (by omega) (by omega), w32i (z := 3 * (n : Int) - (k + 1) + 1) (by omega) (by omega), w32i (z := (k : Int) + 1 + 1) (by omega) (by omega), show 2 * ((k : Int) + 1) - 1 = 2 * k + 1 by omega, show 3 * (n : Int) - (k + 1) + 1 = 3 * n - k by omega, show 2 * ((k : Int) + 1) = 2 * k + 2 by omega, show 3 * (n : Int) - (k + 1) = 3 * n - k - 1 by omega]
      refine cc_their ho hn (by omega) hA fun m2 hF2 hT2 => ⟨rfl, ?_⟩
      refine cc_our ho hn (by omega) hT2 hem ⟨?_, ?_, ?_, ?_⟩ fun m3 hF3 hA3 hC3 => ⟨rfl, ?_⟩
      · rw [FrM_n hF2 (by decide) (by decide)]; exact f3 9 (by decide) (by decide)
      · rw [FrM_n hF2 (by decide) (by decide)]; exact f3 10 (by decide) (by decide)
      · rw [FrM_n hF2 (by decide) (by decide)]; exact f3 11 (by decide) (by decide)
      · rw [FrM_n hF2 (by decide) (by decide)]; exact f3 12 (by decide) (by decide)
      · have := ih (k + 1) m3 (by omega) (FrM_trans hF (FrM_trans (FrM_mono hF2 (by decide)) (FrM_mono hF3 (by decide)))) hA3 (fun q => by omega) fun q _ => by
          subst q
          rw [hC3, show lead - 2 * ((k + 1 : Nat) : Int) + (3 * ((k + 1 : Nat) : Int) - k - 1) = lead by omega]
          rfl
        rw [show (((k + 1 : Nat) : Int)) = (k : Int) + 1 by omega] at this
        exact Y_fg (by exact ⟨rfl, rfl, rfl, rfl, rfl, rfl, rfl, rfl, trivial⟩) this
  -- what stands at the end
  have outer : ∀ (r e : Nat) (m : AMem), e + r = 3 → FrM [700, 701, 6] m0 m → (∀ x q : Int, 0 ≤ x → x < e → 0 ≤ q → q ≤ 3 * n → m 700 0 (61 * x + q) = oV o th 0 (lead - 2 * n + q) x) → Y cX6_weigh 10 RX6 (d + 3) none 8 [some (vr 6 0), some (vr 2 0), some (vi n), some (vi lead), some (vi em), some (vi th), some (vi (3 * n)), some (vi e), none, none] [] m (fun r mem2 => rk none r ∧ Q r mem2) := by
    intro r
    induction r with
    | zero =>
      intro e m he hF hD
      refine sg_X6_weigh_8 _ _ _ _ _ _ _ _ ⟨fun _ => ?_, fun c => by omega⟩
      have := rounds n 0 (upM m 6 0 3 0) (by omega) (FrM_uk hF (by decide) (by decide)) (fun x q x0 x1 q0 q1 => by rw [up_k (by decide)]; exact hD x q x0 (by omega) (by omega) (by omega)) (fun _ => up_s) (fun q q2 => by omega)
      exact this
    | succ r ih =>
      intro e m he hF hD
      refine sg_X6_weigh_8 _ _ _ _ _ _ _ _ ⟨fun c => by omega, fun _ => ?_⟩
      have inner : ∀ (s : Nat) (p : Int) (mm : AMem), p + s = 3 * n + 1 → 0 ≤ p → FrM [700, 701, 6] m0 mm → (∀ x q : Int, 0 ≤ x → (x < e ∨ (x = e ∧ q < p)) → 0 ≤ q → q ≤ 3 * n → mm 700 0 (61 * x + q) = oV o th 0 (lead - 2 * n + q) x) → Y cX6_weigh 10 RX6 (d + 3) none 17 [some (vr 6 0), some (vr 2 0), some (vi n), some (vi lead), some (vi em), some (vi th), some (vi (3 * n)), some (vi e), some (vi p), none] [] mm (fun r mem2 => rk none r ∧ Q r mem2) := by
        intro s
        induction s with
        | zero =>
          intro p mm hp hp0 hF hD
          refine sg_X6_weigh_17 _ _ _ _ _ _ _ _ _ ⟨fun _ => ?_, fun c => by omega⟩
          rw [w32n (by omega)]
          exact Y_fg (by exact ⟨rfl, rfl, rfl, rfl, rfl, rfl, rfl, rfl, trivial⟩) (ih (e + 1) mm (by omega) hF fun x q x0 x1 q0 q1 => hD x q x0 (by omega) q0 q1)
        | succ s ihs =>
          intro p mm hp hp0 hF hD
          refine sg_X6_weigh_17 _ _ _ _ _ _ _ _ _ ⟨fun c => by omega, fun _ => ?_⟩
          rw [w32i (z := 2 * (n : Int)) (by omega) (by omega), w32i (z := lead - 2 * (n : Int)) (by omega) (by omega), w32i (z := lead - 2 * (n : Int) + p) (by omega) (by omega), w32i (z := (e : Int) * 61) (by omega) (by omega), w32i (z := (e : Int) * 61 + p) (by omega) (by omega), w32i (z := p + 1) (by omega) (by omega), show (e : Int) * 61 + p = 61 * e + p by omega]
          have nx : ∀ v z, v = oV o th 0 (lead - 2 * n + p) e → Y cX6_weigh 10 RX6 (d + 3) none 17 [some (vr 6 0), some (vr 2 0), some (vi n), some (vi lead), some (vi em), some (vi th), some (vi (3 * n)), some (vi e), some (vi (p + 1)), some (vi z)] [] (upM mm 700 0 (61 * e + p) v) (fun r mem2 => rk none r ∧ Q r mem2) := by
            intro v z hv
            refine Y_fg (by exact ⟨rfl, rfl, rfl, rfl, rfl, rfl, rfl, rfl, rfl, trivial⟩) (ihs (p + 1) _ (by omega) (by omega) (FrM_uk hF (by decide) (by decide)) fun x q x0 x1 q0 q1 => ?_)
            rw [up_eq]
            by_cases c : x = e ∧ q = p
            · rw [if_pos (by omega), c.1, c.2, hv]
            · rw [if_neg (by omega)]
              exact hD x q x0 (by omega) q0 q1
          refine ⟨fun c => ⟨fun c2 => ⟨by omega, nx _ _ ?_⟩, fun c2 => ⟨by omega, nx _ _ ?_⟩⟩, fun c => ⟨by omega, nx _ _ ?_⟩⟩
          · rw [oV_0, if_neg (by omega), if_neg c2]
          · rw [oV_0, if_neg (by omega), if_pos c2]
          · rw [oV_0, if_pos (by omega)]
      have := inner (3 * n + 1) 0 m (by omega) (by decide) hF fun x q x0 x1 q0 q1 => hD x q x0 (by omega) q0 q1
      exact this
  have := outer 3 0 m0 (by decide) (FrM_refl _ _) fun x q x0 x1 => by omega
  refine Y_met rfl 4 rfl (sg_X6_weigh_0 _ _ _ _ _ _ ?_)
  rw [w32i (z := 3 * (n : Int)) (by omega) (by omega)]
  exact this
end
