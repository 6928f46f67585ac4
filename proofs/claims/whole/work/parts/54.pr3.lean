def flM (m : AMem) (k j : Nat) (lo hi v : Int) : AMem := fun k2 j2 i => if k2 = k then if j2 = j then if lo ≤ i ∧ i < hi then v else m k2 j2 i else m k2 j2 i else m k2 j2 i
theorem flM_0 {m : AMem} {k j : Nat} {lo v : Int} : flM m k j lo lo v = m := by
  funext k2 j2 i
  unfold flM
  split
  · split
    · rw [if_neg (by omega)]
    · rfl
  · rfl
theorem flM_up {m : AMem} {k j : Nat} {lo a v : Int} (h : lo ≤ a) : upM (flM m k j lo a v) k j a v = flM m k j lo (a + 1) v := by
  funext k2 j2 i
  unfold upM flM
  split
  · split
    · by_cases e : i = a
      · rw [if_pos e, if_pos (by omega)]
      · rw [if_neg e]
        by_cases e2 : lo ≤ i ∧ i < a
        · rw [if_pos e2, if_pos (by omega)]
        · rw [if_neg e2, if_neg (by omega)]
    · rfl
  · rfl
theorem FrM_fl {W : List Nat} {m m2 : AMem} {k j : Nat} {lo hi v : Int} (h : FrM W m m2) (hk : k ≠ 12) (hc : k ∈ W) : FrM W m (flM m2 k j lo hi v) := by
  intro k2 j2 i2 h2
  unfold flM
  split
  · rename_i e1
    subst e1
    unfold cdc at h2
    rw [if_neg hk] at h2
    exact absurd hc h2
  · exact h _ _ _ h2
theorem cc_fillL {d j : Nat} {v : Int} {m : AMem} {Q : Option AV → AMem → Prop} (h : Q none (flM m 1100 j 0 60 v)) : MtX yJ7_fill_d0a16 cJ7_fill_d0a16 5 none (d + 1) [vr 1100 j, vl v] m Q := by
  have key : ∀ (n : Nat) (a : Int), 0 ≤ a → a + n = 60 → Y cJ7_fill_d0a16 5 RJ7 (d + 1) none 6 [some (vr 1100 j), some (vl v), none, some (vi a), some (vi 60)] [] (flM m 1100 j 0 a v) (fun r mem2 => rk none r ∧ Q r mem2) := by
    intro n
    induction n with
    | zero =>
      intro a h0 h1
      have e : a = 60 := by omega
      subst e
      exact sg_J7_fill_d0a16_6 _ _ _ _ _ _ ⟨fun _ => ⟨trivial, h⟩, fun c => by omega⟩
    | succ n ih =>
      intro a h0 h1
      refine sg_J7_fill_d0a16_6 _ _ _ _ _ _ ⟨fun c => by omega, fun c => ⟨by omega, ?_⟩⟩
      rw [flM_up h0, show w32 (a + 1) = a + 1 by simp only [w32e]; omega]
      exact ih (a + 1) (by omega) (by omega)
  refine Y_met rfl 2 rfl (sg_J7_fill_d0a16_0 _ _ _ _ ?_)
  have := key 60 0 (by omega) (by omega)
  rwa [flM_0] at this
theorem cm_why2 {d : Nat} {a b : Int} {m : AMem} {Q : Option AV → AMem → Prop} (hz : 0 ≤ a ∧ a ≤ 5 → 0 ≤ m 1360 0 a ∧ m 1360 0 a ≤ 60) (h : ∀ x, RfE m a b x → Q (some (vi x)) m) : MtX yX12_whyNoPlace cX12_whyNoPlace 3 (some .int) (d + 3) [vr 12 0, vi a, vi b] m Q := by
  refine Y_met rfl 0 rfl (sg_X12_whyNoPlace_0 _ _ _ _ (cm_isShelf fun x hx => ⟨x, rfl, fun c => ⟨by omega, fun c2 => ⟨by omega, fun c3 => ⟨by omega, ?_⟩, fun c3 => ⟨trivial, h _ (by unfold RfE; omega)⟩⟩, fun c2 => ⟨trivial, h _ (by unfold RfE; omega)⟩⟩, fun c => ⟨trivial, h _ (by unfold RfE; omega)⟩⟩))
  have hs := hz (by omega)
  have e : w32 (m 1360 0 a - 1) = m 1360 0 a - 1 := by simp only [w32e]; omega
  rw [e]
  exact cm_in fun y hy => ⟨y, rfl, fun c4 => ⟨trivial, h _ (by unfold RfE; omega)⟩, fun c4 => ⟨trivial, h _ (by unfold RfE; omega)⟩⟩
def wPut : List Nat := [1100, 1361]
theorem put_inv {m : AMem} {a b v : Int} (hI : InvS m) (ha : 0 ≤ a ∧ a ≤ 5) (hb : 0 ≤ b ∧ b < 60) (hv : m 1359 0 a = -2 → -128 ≤ v ∧ v ≤ 127) : InvS (upM (upM m 1100 a.toNat b v) 1361 0 (60 * a + b) v) ∧ FrM wPut m (upM (upM m 1100 a.toNat b v) 1361 0 (60 * a + b) v) := by
  refine ⟨?_, FrM_uk (FrM_uk (FrM_refl _ _) (by decide) (by decide)) (by decide) (by decide)⟩
  intro s hs
  have hs0 := hI s hs
  by_cases e : (s : Int) = a
  · have e2 : a.toNat = s := by omega
    rw [e2]
    subst e
    simp [upM]
    refine ⟨hs0.1, hs0.2.1, fun i hi hi2 => ?_⟩
    by_cases e3 : i = b
    · subst e3; simp; exact hv
    · simp [e3]
      have e4 : ¬ (60 * (s : Int) + i = 60 * s + b) := by omega
      exact hs0.2.2 i hi hi2
  · have e2 : s ≠ a.toNat := by omega
    simp [upM, e2]
    refine ⟨hs0.1, hs0.2.1, fun i hi hi2 => ?_⟩
    have e4 : ¬ (60 * (s : Int) + i = 60 * a + b) := by omega
    simp [e4]
    exact hs0.2.2 i hi hi2
theorem b8_in (x : Int) : -128 ≤ b8 x ∧ b8 x ≤ 127 := by
  have h1 := Int.le_bmod (x := x) (m := 256) (by decide)
  have h2 := Int.bmod_lt (x := x) (m := 256) (by decide)
  unfold b8
  omega
theorem pr_put {d : Nat} {a b v : Int} {m : AMem} {Q : Option AV → AMem → Prop} (hI : InvS m)
    (hQ : ∀ x m1, MtX yX12_put cX12_put 7 (some .int) (d + 4) [vr 12 0, vi a, vi b, vl v] m1 (fun r m2 => r = some (vi x) ∧ InvS m2 ∧ FrM wPut m m2) → Q (some (vi x)) m1) : MtX yX11_put cX11_put 6 (some .int) (d + 4) [vr 11 0, vi a, vi b, vl v] m Q := by
  refine Y_met rfl 1 rfl (sg_X11_put_0 _ _ _ _ _ (cc_refEl hI fun x hx => ⟨x, rfl, fun c => ?_, fun c => ⟨trivial, hQ _ _ ?_⟩⟩))
  · unfold RfE at hx
    have ha : 0 ≤ a ∧ a ≤ 5 := by omega
    have hs := invS_at hI ha
    have hb : 0 ≤ b ∧ b < m 1360 0 a := by omega
    refine ⟨by omega, ?_⟩
    have e : w32 (w32 (60 * a) + b) = 60 * a + b := by simp only [w32e]; omega
    have key : ∀ t : Int, (m 1359 0 a = -2 → -128 ≤ t ∧ t ≤ 127) → (∀ (Q2 : Option AV → AMem → Prop) (mm : AMem), mm 1359 0 a = m 1359 0 a → Q2 (some (vi 1)) (upM mm 1361 0 (60 * a + b) t) →
        ((w32 ((-2) - (mm 1359 0 a))) ≠ (0 : Int) → (((w32 ((-2) - (mm 1359 0 a))) ≠ (1 : Int) → (((w32 ((-2) - (mm 1359 0 a))) ≠ (2 : Int) → (((w32 ((-2) - (mm 1359 0 a))) ≠ (3 : Int) → (((lc v 0) = (0 : Int) → ((0 ≤ (60 * a + b) ∧ (60 * a + b) < 360) ∧ (Q2 (some (vi 1)) (upM mm 1361 0 (60 * a + b) 0)))) ∧ (¬ (lc v 0) = (0 : Int) → ((0 ≤ (60 * a + b) ∧ (60 * a + b) < 360) ∧ (Q2 (some (vi 1)) (upM mm 1361 0 (60 * a + b) 1)))))) ∧ ((w32 ((-2) - (mm 1359 0 a))) = (3 : Int) → ((0 ≤ (60 * a + b) ∧ (60 * a + b) < 360) ∧ (Q2 (some (vi 1)) (upM mm 1361 0 (60 * a + b) v)))))) ∧ ((w32 ((-2) - (mm 1359 0 a))) = (2 : Int) → ((0 ≤ (60 * a + b) ∧ (60 * a + b) < 360) ∧ (Q2 (some (vi 1)) (upM mm 1361 0 (60 * a + b) (w32 v))))))) ∧ ((w32 ((-2) - (mm 1359 0 a))) = (1 : Int) → ((0 ≤ (60 * a + b) ∧ (60 * a + b) < 360) ∧ (Q2 (some (vi 1)) (upM mm 1361 0 (60 * a + b) (s16 (w32 v)))))))) ∧ ((w32 ((-2) - (mm 1359 0 a))) = (0 : Int) → ((0 ≤ (60 * a + b) ∧ (60 * a + b) < 360) ∧ (Q2 (some (vi 1)) (upM mm 1361 0 (60 * a + b) (b8 (w32 v))))))) →
        Q (some (vi 1)) (upM m 1100 a.toNat b t) := by
      intro t ht hall
      refine hQ _ _ (Y_met rfl 2 rfl (sg_X12_put_0 _ _ _ _ _ (cm_why2 (by simp [upM]; omega) fun y hy => ⟨y, rfl, fun c2 => ⟨by omega, ?_⟩, fun c2 => ?_⟩)))
      · rw [e]
        obtain ⟨i1, i2⟩ := put_inv (b := b) (v := t) hI ha (by omega) ht
        exact hall (fun r mem2 => rk (some .int) r ∧ r = some (vi 1) ∧ InvS mem2 ∧ FrM wPut m mem2) (upM m 1100 a.toNat b t) (by simp [upM]) ⟨trivial, rfl, i1, i2⟩
      · unfold RfE at hy
        simp [upM] at hy
        omega
    have hsort : m 10 a.toNat 2 = -2 - m 1359 0 a := by omega
    refine Y_met rfl 0 rfl (sg_X10_store_0 _ _ _ _ _ ⟨fun c3 => ⟨by omega, trivial, rfl, trivial, ?_⟩, fun c3 => ⟨by omega, trivial, rfl, trivial, ?_⟩, fun c3 => ⟨by omega, trivial, rfl, trivial, ?_⟩, fun c3 => ⟨by omega, trivial, rfl, trivial, ?_⟩, fun c3 => ⟨fun c4 => ⟨by omega, trivial, rfl, trivial, ?_⟩, fun c4 => ⟨by omega, trivial, rfl, trivial, ?_⟩⟩⟩)
    · refine key _ (fun _ => b8_in _) fun Q2 mm hm hq => ?_
      have ew : w32 (-2 - mm 1359 0 a) = 0 := by simp only [w32e]; omega
      rw [ew]
      exact ⟨fun z => absurd rfl z, fun _ => ⟨by omega, hq⟩⟩
    · refine key _ (fun z => by omega) fun Q2 mm hm hq => ?_
      have ew : w32 (-2 - mm 1359 0 a) = 1 := by simp only [w32e]; omega
      rw [ew]
      exact ⟨fun _ => ⟨fun z => absurd rfl z, fun _ => ⟨by omega, hq⟩⟩, fun z => by omega⟩
    · refine key _ (fun z => by omega) fun Q2 mm hm hq => ?_
      have ew : w32 (-2 - mm 1359 0 a) = 2 := by simp only [w32e]; omega
      rw [ew]
      exact ⟨fun _ => ⟨fun _ => ⟨fun z => absurd rfl z, fun _ => ⟨by omega, hq⟩⟩, fun z => by omega⟩, fun z => by omega⟩
    · refine key _ (fun z => by omega) fun Q2 mm hm hq => ?_
      have ew : w32 (-2 - mm 1359 0 a) = 3 := by simp only [w32e]; omega
      rw [ew]
      exact ⟨fun _ => ⟨fun _ => ⟨fun _ => ⟨fun z => absurd rfl z, fun _ => ⟨by omega, hq⟩⟩, fun z => by omega⟩, fun z => by omega⟩, fun z => by omega⟩
    · refine key _ (fun z => by omega) fun Q2 mm hm hq => ?_
      have ew : w32 (-2 - mm 1359 0 a) = 4 := by simp only [w32e]; omega
      rw [ew]
      exact ⟨fun _ => ⟨fun _ => ⟨fun _ => ⟨fun _ => ⟨fun _ => ⟨by omega, hq⟩, fun z => absurd c4 z⟩, fun z => by omega⟩, fun z => by omega⟩, fun z => by omega⟩, fun z => by omega⟩
    · refine key _ (fun z => by omega) fun Q2 mm hm hq => ?_
      have ew : w32 (-2 - mm 1359 0 a) = 4 := by simp only [w32e]; omega
      rw [ew]
      exact ⟨fun _ => ⟨fun _ => ⟨fun _ => ⟨fun _ => ⟨fun z => absurd z c4, fun _ => ⟨by omega, hq⟩⟩, fun z => by omega⟩, fun z => by omega⟩, fun z => by omega⟩, fun z => by omega⟩
  · refine Y_met rfl 2 rfl (sg_X12_put_0 _ _ _ _ _ (cm_why hI fun y hy => ⟨y, rfl, fun c2 => ?_, fun c2 => ⟨trivial, ?_, hI, FrM_refl _ _⟩⟩))
    · unfold RfE at hx hy; omega
    · have : y = x := by unfold RfE at hx hy; omega
      rw [this]
def wRow : List Nat := [10, 1100, 1359, 1360, 1361]
theorem row_loop {d : Nat} {a b n : Int} {m : AMem} {Q : Option AV → AMem → Prop} (ha : 0 ≤ a ∧ a ≤ 5) (h : Q (some (vi 1)) (flM m 1361 0 (60 * a) (60 * a + 60) 0)) : ∀ (k : Nat) (x : Int), 60 * a ≤ x → x + k = 60 * a + 60 → Y cX12_row 5 RX12 (d + 1) none 54 [some (vr 12 0), some (vi a), some (vi b), some (vi n), some (vi x)] [] (flM m 1361 0 (60 * a) x 0) Q := by
  have e : w32 (w32 (60 * a) + 60) = 60 * a + 60 := by simp only [w32e]; omega
  intro k
  induction k with
  | zero =>
    intro x h0 h1
    have e2 : x = 60 * a + 60 := by omega
    subst e2
    exact sg_X12_row_54 _ _ _ _ _ _ ⟨fun _ => h, fun c => by omega⟩
  | succ k ih =>
    intro x h0 h1
    refine sg_X12_row_54 _ _ _ _ _ _ ⟨fun c => by omega, fun c => ⟨by omega, ?_⟩⟩
    rw [flM_up h0, show w32 (x + 1) = x + 1 by simp only [w32e]; omega]
    exact ih (x + 1) (by omega) (by omega)
theorem pr_row {d : Nat} {a b n : Int} {m : AMem} {Q : Option AV → AMem → Prop} (hI : InvS m)
    (hQ : ∀ x m1, MtX yX12_row cX12_row 5 (some .int) (d + 4) [vr 12 0, vi a, vi b, vi n] m1 (fun r m2 => r = some (vi x) ∧ InvS m2 ∧ FrM wRow m m2) → Q (some (vi x)) m1) : MtX yX11_row cX11_row 4 (some .int) (d + 4) [vr 11 0, vi a, vi b, vi n] m Q := by
  have bad : ¬ ((0 ≤ a ∧ a ≤ 5) ∧ (0 ≤ b ∧ b ≤ 4) ∧ n ≤ 60) → Q (some (vi (-1))) m := fun hb => hQ _ _ (Y_met rfl 1 rfl (sg_X12_row_0 _ _ _ _ _ (cm_isShelf fun x hx => ⟨x, rfl, fun c => ⟨trivial, rfl, hI, FrM_refl _ _⟩, fun c => cm_in fun y hy => ⟨y, rfl, fun c2 => ⟨trivial, rfl, hI, FrM_refl _ _⟩, fun c2 => ⟨fun c3 => by omega, fun c3 => ⟨trivial, rfl, hI, FrM_refl _ _⟩⟩⟩⟩)))
  refine Y_met rfl 0 rfl (sg_X11_row_0 _ _ _ _ _ (cc_noSuchShelf fun x hx => ⟨x, rfl, fun c => ⟨trivial, bad (by omega)⟩, fun c => ⟨fun c2 => ⟨trivial, bad (by omega)⟩, fun c2 => ⟨fun c3 => ⟨trivial, bad (by omega)⟩, fun c3 => ⟨fun c4 => ⟨fun c5 => ⟨by omega, ?_⟩, fun c5 => ⟨trivial, hQ _ _ ?_⟩⟩, fun c4 => ⟨trivial, bad (by omega)⟩⟩⟩⟩⟩))
  · refine Y_met rfl 0 rfl (sg_X10_holdRow_0 _ _ _ _ _ (cc_fillL ⟨rfl, trivial, rfl, trivial, hQ _ _ ?_⟩))
    have ha : 0 ≤ a ∧ a ≤ 5 := by omega
    refine Y_met rfl 1 rfl (sg_X12_row_0 _ _ _ _ _ (cm_isShelf fun x hx => ⟨x, rfl, fun c => by omega, fun c => cm_in fun y hy => ⟨y, rfl, fun c2 => by omega, fun c2 => ⟨fun c3 => ⟨fun c4 => ⟨by omega, by omega, ?_⟩, fun c4 => by omega⟩, fun c3 => by omega⟩⟩⟩))
    have e1 : w32 (60 * a) = 60 * a := by simp only [w32e]; omega
    have e2 : w32 (-2 - b) = -2 - b := by simp only [w32e]; omega
    rw [e1, e2]
    have := row_loop (d := d + 3) (a := a) (b := b) (n := n) (m := upM (upM (flM (upM (upM (upM m 10 a.toNat 4 2) 10 a.toNat 2 b) 10 a.toNat 1 n) 1100 a.toNat 0 60 0) 1359 0 a (-2 - b)) 1360 0 a n) (Q := fun r mem2 => rk (some .int) r ∧ r = some (vi 1) ∧ InvS mem2 ∧ FrM wRow m mem2) ha ?_ 60 (60 * a) (by omega) (by omega)
    · rwa [flM_0] at this
    · refine ⟨trivial, rfl, ?_, FrM_fl (FrM_uk (FrM_uk (FrM_fl (FrM_uk (FrM_uk (FrM_uk (FrM_refl _ _) (by decide) (by decide)) (by decide) (by decide)) (by decide) (by decide)) (by decide) (by decide)) (by decide) (by decide)) (by decide) (by decide)) (by decide) (by decide)⟩
      intro s hs
      have hs0 := hI s hs
      by_cases e : (s : Int) = a
      · have e2 : a.toNat = s := by omega
        rw [e2]
        subst e
        simp [upM, flM]
        refine ⟨by omega, by omega, fun i hi hi2 => ?_⟩
        rw [if_pos (by omega), if_pos (by omega)]
        simp
      · have e2 : s ≠ a.toNat := by omega
        simp [upM, flM, e, e2]
        refine ⟨hs0.1, hs0.2.1, fun i hi hi2 => ?_⟩
        rw [if_neg (by omega)]
        exact hs0.2.2 i hi hi2
  · exact Y_met rfl 1 rfl (sg_X12_row_0 _ _ _ _ _ (cm_isShelf fun x hx => ⟨x, rfl, fun c => by omega, fun c => cm_in fun y hy => ⟨y, rfl, fun c2 => by omega, fun c2 => ⟨fun c3 => ⟨fun c4 => by omega, fun c4 => ⟨trivial, rfl, hI, FrM_refl _ _⟩⟩, fun c3 => by omega⟩⟩⟩))
