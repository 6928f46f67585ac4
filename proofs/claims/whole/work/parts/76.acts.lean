/-! shift, taken, acts -/
section
variable {d : Nat} {m : AMem} {Q : Option AV → AMem → Prop}
def wShf : List Nat := [1100, 1361, 1362]
set_option maxHeartbeats 1000000 in
theorem pr_shift {a i b j n : Int} (hI : InvS m)
    (hQ : ∀ x m1, MtX yX12_shift cX12_shift 7 (some .int) (d + 4) [vr 12 0, vi a, vi i, vi b, vi j, vi n] m1 (fun r m2 => r = some (vi x) ∧ InvS m2 ∧ FrM wShf m m2) → Q (some (vi x)) m1) : MtX yX11_shift cX11_shift 8 (some .int) (d + 4) [vr 11 0, vi a, vi i, vi b, vi j, vi n] m Q := by
  refine MtX_wf fun _ hav => ?_
  have hn : ri n := hav (vi n) (by simp)
  have hn1 := hn.1
  have hn2 := hn.2
  have bad : ∀ x, ((x = -1 ∧ ¬ ((0 ≤ a ∧ a ≤ 5) ∧ 0 ≤ b ∧ b ≤ 5)) ∨ (((0 ≤ a ∧ a ≤ 5) ∧ 0 ≤ b ∧ b ≤ 5) ∧ ((x = -11 ∧ (m 1359 0 a = -1 ∨ m 1359 0 b = -1)) ∨ (x = -12 ∧ m 1359 0 a ≠ -1 ∧ m 1359 0 b ≠ -1 ∧ (0 ≤ m 1359 0 a ∨ m 1359 0 a ≠ m 1359 0 b)) ∨ (x = -13 ∧ m 1359 0 a ≤ -2 ∧ m 1359 0 a = m 1359 0 b ∧ ¬ (0 ≤ n ∧ 0 ≤ i ∧ 0 ≤ j ∧ i + n ≤ m 1360 0 a ∧ j + n ≤ m 1360 0 b))))) → Q (some (vi x)) m := by
    intro x hx
    have no : ∀ y : Int, y = x → rk (some .int) (some (vi y)) ∧ some (vi y) = some (vi x) ∧ InvS m ∧ FrM wShf m m := fun y hy => ⟨trivial, by rw [hy], hI, FrM_refl _ _⟩
    refine hQ _ _ (Y_met rfl 1 rfl (sg_X12_shift_0 _ _ _ _ _ _ _ (cm_isShelf fun y hy => ⟨y, rfl, fun c => no _ (by omega), fun c => cm_isShelf fun z hz => ⟨z, rfl, fun c2 => ?_, fun c2 => no _ (by omega)⟩⟩)))
    have s1 := (invS_at hI (a := a) (by omega)).2.1
    have s2 := (invS_at hI (a := b) (by omega)).2.1
    refine ⟨by omega, fun c3 => no _ (by omega), fun c3 => ⟨by omega, fun c4 => ⟨by omega, fun c5 => no _ (by omega), fun c5 => ⟨by omega, by omega, fun c6 => ⟨fun c7 => no _ (by omega), fun c7 => ⟨fun c8 => no _ (by omega), fun c8 => ⟨fun c9 => no _ (by omega), fun c9 => ⟨by omega, ?_⟩⟩⟩⟩, fun c6 => no _ (by omega)⟩⟩, fun c4 => no _ (by omega)⟩⟩
    rw [w32i (z := m 1360 0 a - n) (by omega) (by omega), w32i (z := m 1360 0 b - n) (by omega) (by omega)]
    exact ⟨fun c10 => no _ (by omega), fun c10 => ⟨by omega, fun c11 => by exfalso; omega, fun c11 => no _ (by omega)⟩⟩
  refine Y_met rfl 2 rfl (sg_X11_shift_0 _ _ _ _ _ _ _ (cc_noSuchShelf fun x hx => ⟨x, rfl, fun c => ⟨trivial, bad _ (by omega)⟩, fun c => cc_noSuchShelf fun y hy => ⟨y, rfl, fun c2 => ?_, fun c2 => ⟨trivial, bad _ (by omega)⟩⟩⟩))
  have ha : 0 ≤ a ∧ a ≤ 5 := by omega
  have hb : 0 ≤ b ∧ b ≤ 5 := by omega
  have sa := invS_at hI ha
  have sb := invS_at hI hb
  refine ⟨by omega, by omega, cc_isEmpty fun u hu => ⟨u, rfl, fun c3 => ⟨trivial, bad _ (by omega)⟩, fun c3 => cc_isEmpty fun v hv => ⟨v, rfl, fun c4 => ?_, fun c4 => ⟨trivial, bad _ (by omega)⟩⟩⟩⟩
  refine cc_holdsRow fun w hw => ⟨w, rfl, fun c5 => ⟨trivial, bad _ (by omega)⟩, fun c5 => cc_holdsRow fun z hz => ⟨z, rfl, fun c6 => ⟨trivial, bad _ (by omega)⟩, fun c6 => ⟨fun c7 => ?_, fun c7 => ⟨trivial, bad _ (by omega)⟩⟩⟩⟩
  refine cc_reaches hn (by omega) fun x2 hx2 => ⟨x2, rfl, fun c8 => ⟨trivial, bad _ (by omega)⟩, fun c8 => cc_reaches hn (by omega) fun x3 hx3 => ⟨x3, rfl, fun c9 => ⟨by omega, trivial, hQ _ _ ?_⟩, fun c9 => ⟨trivial, bad _ (by omega)⟩⟩⟩
  -- the elements go over
  have hal : m 1359 0 a ≤ -2 := by omega
  have hab : m 1359 0 a = m 1359 0 b := by omega
  have hin : 0 ≤ n ∧ 0 ≤ i ∧ 0 ≤ j ∧ i + n ≤ m 1360 0 a ∧ j + n ≤ m 1360 0 b := by omega
  have sz1 := sa.2.1
  have sz2 := sb.2.1
  have hF1 : FrM [1100] m (cpM m 1100 b.toNat j 1100 a.toNat i n) := FrM_cp (FrM_refl _ _) (by decide) (by decide)
  have e11 : ∀ s x, cpM m 1100 b.toNat j 1100 a.toNat i n 1100 s x = if s = b.toNat ∧ j ≤ x ∧ x < j + n then m 1100 a.toNat (i + (x - j)) else m 1100 s x := by
    intro s x
    unfold cpM
    rw [if_pos rfl]
    by_cases c : s = b.toNat
    · rw [if_pos c]
      by_cases c2 : j ≤ x ∧ x < j + n
      · rw [if_pos c2, if_pos ⟨c, c2⟩]
      · rw [if_neg c2, if_neg (fun z => c2 z.2)]
    · rw [if_neg c, if_neg (fun z => c z.1)]
  generalize cpM m 1100 b.toNat j 1100 a.toNat i n = m1 at *
  have g59 : ∀ x, m1 1359 0 x = m 1359 0 x := fun x => FrM_n hF1 (by decide) (by decide)
  have g60 : ∀ x, m1 1360 0 x = m 1360 0 x := fun x => FrM_n hF1 (by decide) (by decide)
  have g61 : ∀ x, m1 1361 0 x = m 1361 0 x := fun x => FrM_n hF1 (by decide) (by decide)
  refine Y_met rfl 1 rfl (sg_X12_shift_0 _ _ _ _ _ _ _ (cm_isShelf fun y hy => ⟨y, rfl, fun c => by omega, fun c => cm_isShelf fun z hz => ⟨z, rfl, fun c2 => ?_, fun c2 => by omega⟩⟩))
  rw [g59, g59, g60, g60]
  refine ⟨by omega, fun c3 => by omega, fun c3 => ⟨by omega, fun c4 => ⟨by omega, fun c5 => by omega, fun c5 => ⟨by omega, by omega, fun c6 => ⟨fun c7 => by omega, fun c7 => ⟨fun c8 => by omega, fun c8 => ⟨fun c9 => by omega, fun c9 => ⟨by omega, ?_⟩⟩⟩⟩, fun c6 => by omega⟩⟩, fun c4 => by omega⟩⟩
  rw [w32i (z := m 1360 0 a - n) (by omega) (by omega), w32i (z := m 1360 0 b - n) (by omega) (by omega)]
  refine ⟨fun c10 => by omega, fun c10 => ⟨by omega, fun c11 => ?_, fun c11 => by omega⟩⟩
  have k2 : ∀ (r k : Nat) (mm : AMem), ((k + r : Nat) : Int) = n → FrM [1361, 1362] m1 mm → (∀ x : Int, 0 ≤ x → x < n → mm 1362 0 x = m 1361 0 (60 * a + i + x)) → (∀ y, mm 1361 0 y = if 60 * b + j ≤ y ∧ y < 60 * b + j + k then m 1361 0 (60 * a + i + (y - (60 * b + j))) else m 1361 0 y) → Y cX12_shift 7 RX12 (d + 4) none 150 [some (vr 12 0), some (vi a), some (vi i), some (vi b), some (vi j), some (vi n), some (vi k)] [] mm (fun r mem2 => rk (some .int) r ∧ r = some (vi n) ∧ InvS mem2 ∧ FrM wShf m mem2) := by
    intro r
    induction r with
    | zero =>
      intro k mm hk hF h62 h61
      refine sg_X12_shift_150 _ _ _ _ _ _ _ _ ⟨fun _ => ⟨trivial, rfl, ?_, FrM_trans (FrM_mono hF1 (by decide)) (FrM_mono hF (by decide))⟩, fun c => by omega⟩
      intro s hs
      have hs0 := hI s hs
      have f1 : mm 1359 0 s = m 1359 0 s := by rw [FrM_n hF (by decide) (by decide)]; exact g59 s
      have f2 : mm 12 0 55 = m 12 0 55 := by rw [hF 12 0 55 (by decide), hF1 12 0 55 (by decide)]
      have f3 : ∀ x, mm 10 s x = m 10 s x := fun x => by rw [FrM_n hF (by decide) (by decide), FrM_n hF1 (by decide) (by decide)]
      have f4 : mm 1360 0 s = m 1360 0 s := by rw [FrM_n hF (by decide) (by decide)]; exact g60 s
      have f5 : ∀ x, mm 1100 s x = m1 1100 s x := fun x => FrM_n hF (by decide) (by decide)
      rw [f1, f2, f3, f3, f3, f3, f4]
      refine ⟨hs0.1, hs0.2.1, fun x g0 g1 => ?_⟩
      have hx0 := hs0.2.2 x g0 g1
      rw [f5, e11, h61]
      by_cases c : (s : Int) = b
      · have c0 : s = b.toNat := by omega
        by_cases c2 : j ≤ x ∧ x < j + n
        · rw [if_pos ⟨c0, c2⟩, if_pos (by omega)]
          have p := sa.2.2 (i + (x - j)) (by omega) (by omega)
          refine ⟨?_, fun z => p.2 (by rw [c] at z; omega)⟩
          rw [p.1]
          congr 1
          omega
        · rw [if_neg (fun z => c2 z.2), if_neg (by omega)]
          exact hx0
      · rw [if_neg (fun z => c (by omega)), if_neg (by omega)]
        exact hx0
    | succ r ih =>
      intro k mm hk hF h62 h61
      refine sg_X12_shift_150 _ _ _ _ _ _ _ _ ⟨fun c => by omega, fun _ => ?_⟩
      rw [w32i (z := 60 * b) (by omega) (by omega), w32i (z := 60 * b + j) (by omega) (by omega), w32i (z := 60 * b + j + k) (by omega) (by omega), w32n (by omega)]
      refine ⟨by omega, by omega, ih (k + 1) _ (by omega) (FrM_uk hF (by decide) (by decide)) (fun x g0 g1 => by rw [up_k (by decide)]; exact h62 x g0 g1) fun y => ?_⟩
      rw [up_eq, h62 k (by omega) (by omega)]
      by_cases e : y = 60 * b + j + k
      · rw [if_pos e, if_pos (by omega)]
        congr 1
        omega
      · rw [if_neg e, h61]
        by_cases e2 : 60 * b + j ≤ y ∧ y < 60 * b + j + k
        · rw [if_pos e2, if_pos (by omega)]
        · rw [if_neg e2, if_neg (by omega)]
  have k1 : ∀ (r k : Nat) (mm : AMem), ((k + r : Nat) : Int) = n → FrM [1361, 1362] m1 mm → (∀ y, mm 1361 0 y = m 1361 0 y) → (∀ x : Int, 0 ≤ x → x < k → mm 1362 0 x = m 1361 0 (60 * a + i + x)) → Y cX12_shift 7 RX12 (d + 4) none 113 [some (vr 12 0), some (vi a), some (vi i), some (vi b), some (vi j), some (vi n), some (vi k)] [] mm (fun r mem2 => rk (some .int) r ∧ r = some (vi n) ∧ InvS mem2 ∧ FrM wShf m mem2) := by
    intro r
    induction r with
    | zero =>
      intro k mm hk hF h61 h62
      refine sg_X12_shift_113 _ _ _ _ _ _ _ _ ⟨fun _ => ?_, fun c => by omega⟩
      have := k2 n.toNat 0 mm (by omega) hF (fun x g0 g1 => h62 x g0 (by omega)) (fun y => by rw [if_neg (by omega)]; exact h61 y)
      exact this
    | succ r ih =>
      intro k mm hk hF h61 h62
      refine sg_X12_shift_113 _ _ _ _ _ _ _ _ ⟨fun c => by omega, fun _ => ?_⟩
      rw [w32i (z := 60 * a) (by omega) (by omega), w32i (z := 60 * a + i) (by omega) (by omega), w32i (z := 60 * a + i + k) (by omega) (by omega), w32n (by omega), h61]
      refine ⟨by omega, by omega, ih (k + 1) _ (by omega) (FrM_uk hF (by decide) (by decide)) (fun y => by rw [up_k (by decide)]; exact h61 y) fun x g0 g1 => ?_⟩
      rw [up_eq]
      by_cases e : x = k
      · rw [if_pos e, e]
      · rw [if_neg e]; exact h62 x g0 (by omega)
  have := k1 n.toNat 0 m1 (by omega) (FrM_refl _ _) g61 (fun x g0 g1 => by omega)
  exact this
/-! kinds -/
def unK (k q : Int) : Prop := q = 0 ∨ k = q ∨ (q = 1 ∧ k = 4) ∨ (q = 2 ∧ (k = 3 ∨ k = 5)) ∨ (q = 3 ∧ k = 5) ∨ (q = 6 ∧ k = 7)
def abK (k : Int) : Int := (romL 2003).getD k.toNat 0
theorem abK_all : ∀ k : Fin 8, -1 ≤ abK ((k.val : Nat) : Int) ∧ abK ((k.val : Nat) : Int) < ((k.val : Nat) : Int) := by decide +kernel
theorem abK_rg {k : Int} (h0 : 0 ≤ k) (h1 : k ≤ 7) : -1 ≤ abK k ∧ abK k < k := b_a8 (P := fun k => -1 ≤ abK k ∧ abK k < k) abK_all h0 h1
theorem abK_v : abK 0 = -1 ∧ abK 1 = 0 ∧ abK 2 = 0 ∧ abK 3 = 2 ∧ abK 4 = 1 ∧ abK 5 = 3 ∧ abK 6 = 0 ∧ abK 7 = 6 := by decide +kernel
theorem unK_up {k q : Int} (h0 : 0 ≤ k) (h1 : k ≤ 7) (hq : 0 ≤ q ∧ q ≤ 7) (hne : ¬ k = q) : unK k q ↔ 0 ≤ abK k ∧ unK (abK k) q := by
  obtain ⟨v0, v1, v2, v3, v4, v5, v6, v7⟩ := abK_v
  have e : k = 0 ∨ k = 1 ∨ k = 2 ∨ k = 3 ∨ k = 4 ∨ k = 5 ∨ k = 6 ∨ k = 7 := by omega
  unfold unK
  rcases e with rfl | rfl | rfl | rfl | rfl | rfl | rfl | rfl
  · rw [v0]; omega
  · rw [v1]; omega
  · rw [v2]; omega
  · rw [v3]; omega
  · rw [v4]; omega
  · rw [v5]; omega
  · rw [v6]; omega
  · rw [v7]; omega
theorem cc_isUnder {k q : Int} (h0 : 0 ≤ k) (h1 : k ≤ 7) (hq : 0 ≤ q ∧ q ≤ 7) (h : ∀ x : Int, (x = 1 ∧ unK k q ∨ x = 0 ∧ ¬ unK k q) → Q (some (vi x)) m) : MtX yX0_isUnder cX0_isUnder 4 (some .boolean) (d + 1) [vi k, vi q] m Q := by
  have hl : ((romL 2003).length : Int) = 8 := by decide +kernel
  have key : ∀ (r : Nat) (i : Int) (u : Int), i + r = 8 → 0 ≤ i → -1 ≤ u → u + 1 ≤ (r : Int) → (unK k q ↔ 0 ≤ u ∧ unK u q) → Y cX0_isUnder 4 RX0 (d + 1) none 4 [some (vi k), some (vi q), some (vi u), some (vi i)] [] m (fun r mem2 => rk (some .boolean) r ∧ Q r mem2) := by
    intro r
    induction r with
    | zero =>
      intro i u hi h0i hu hu2 he
      exact sg_X0_isUnder_4 _ _ _ _ _ _ ⟨fun _ => ⟨Or.inl rfl, h 0 (Or.inr ⟨rfl, fun z => by have := he.1 z; omega⟩)⟩, fun c => by omega⟩
    | succ r ih =>
      intro i u hi h0i hu hu2 he
      refine sg_X0_isUnder_4 _ _ _ _ _ _ ⟨fun c => by omega, fun _ => ⟨fun c => ⟨Or.inl rfl, h 0 (Or.inr ⟨rfl, fun z => by have := he.1 z; omega⟩)⟩, fun c => ⟨fun c2 => ?_, fun c2 => ⟨Or.inr rfl, h 1 (Or.inl ⟨rfl, he.2 ⟨by omega, Or.inr (Or.inl c2)⟩⟩)⟩⟩⟩⟩
      rw [hl, w32i (z := i + 1) (by omega) (by omega)]
      have ha := abK_rg (k := u) (by omega) (by omega)
      refine ⟨by omega, ih (i + 1) (abK u) (by omega) (by omega) ha.1 (by omega) ?_⟩
      rw [he, unK_up (by omega) (by omega) hq c2]
      exact ⟨fun z => z.2, fun z => ⟨by omega, z⟩⟩
  exact Y_met rfl 2 rfl (sg_X0_isUnder_0 _ _ _ _ (key 8 0 k (by decide) (by decide) (by omega) (by omega) ⟨fun z => ⟨h0, z⟩, fun z => z.2⟩))
theorem cm_isUnder {k q : Int} (h : ∀ x : Int, (x = 1 ∧ unK k q ∨ x = 0 ∧ ¬ unK k q) → Q (some (vi x)) m) : MtX yX12_isUnder cX12_isUnder 2 (some .boolean) (d + 1) [vi k, vi q] m Q := by
  unfold unK at h
  have yes : ((q = 0 ∨ k = q ∨ (q = 1 ∧ k = 4) ∨ (q = 2 ∧ (k = 3 ∨ k = 5)) ∨ (q = 3 ∧ k = 5) ∨ (q = 6 ∧ k = 7))) → rk (some .boolean) (some (vi 1)) ∧ Q (some (vi 1)) m := fun z => ⟨Or.inr rfl, h 1 (Or.inl ⟨rfl, z⟩)⟩
  have no : ¬ ((q = 0 ∨ k = q ∨ (q = 1 ∧ k = 4) ∨ (q = 2 ∧ (k = 3 ∨ k = 5)) ∨ (q = 3 ∧ k = 5) ∨ (q = 6 ∧ k = 7))) → rk (some .boolean) (some (vi 0)) ∧ Q (some (vi 0)) m := fun z => ⟨Or.inl rfl, h 0 (Or.inr ⟨rfl, z⟩)⟩
  have r34 : ¬ q = 0 → ¬ k = q → ¬ (q = 1 ∧ k = 4) → ¬ (q = 2 ∧ (k = 3 ∨ k = 5)) → Y cX12_isUnder 2 RX12 (d + 1) none 34 [some (vi k), some (vi q)] [] m (fun r mem2 => rk (some .boolean) r ∧ Q r mem2) := fun a1 a2 a3 a4 =>
    sg_X12_isUnder_34 _ _ _ _ ⟨fun c => ⟨fun c2 => no (by omega), fun c2 => ⟨fun c3 => no (by omega), fun c3 => yes (by omega)⟩⟩, fun c => ⟨fun c2 => yes (by omega), fun c2 => ⟨fun c3 => no (by omega), fun c3 => ⟨fun c4 => no (by omega), fun c4 => yes (by omega)⟩⟩⟩⟩
  have r19 : ¬ q = 0 → ¬ k = q → ¬ (q = 1 ∧ k = 4) → Y cX12_isUnder 2 RX12 (d + 1) none 19 [some (vi k), some (vi q)] [] m (fun r mem2 => rk (some .boolean) r ∧ Q r mem2) := fun a1 a2 a3 =>
    sg_X12_isUnder_19 _ _ _ _ ⟨fun c => r34 a1 a2 a3 (by omega), fun c => ⟨fun c2 => yes (by omega), fun c2 => ⟨fun c3 => yes (by omega), fun c3 => r34 a1 a2 a3 (by omega)⟩⟩⟩
  exact Y_met rfl 0 rfl (sg_X12_isUnder_0 _ _ _ _ ⟨fun c => yes (by omega), fun c => ⟨fun c2 => yes (by omega), fun c2 => ⟨fun c3 => r19 c c2 (by omega), fun c3 => ⟨fun c4 => yes (by omega), fun c4 => r19 c c2 (by omega)⟩⟩⟩⟩)
theorem pr_taken {a q : Int} (hI : InvS m) (hB : InvBd m)
    (hQ : ∀ x m1, MtX yX12_taken cX12_taken 3 (some .int) (d + 3) [vr 12 0, vi a, vi q] m1 (fun r m2 => r = some (vi x) ∧ m2 = m) → Q (some (vi x)) m1) : MtX yX11_taken cX11_taken 5 (some .int) (d + 3) [vr 11 0, vi a, vi q] m Q := by
  obtain ⟨⟨h1, h2, h3⟩, h4, -⟩ := hB
  have bad : ∀ x, ((x = -1 ∧ ¬ ((0 ≤ a ∧ a ≤ 5) ∧ 0 ≤ q ∧ q ≤ 7)) ∨ (((0 ≤ a ∧ a ≤ 5) ∧ 0 ≤ q ∧ q ≤ 7) ∧ ((x = -11 ∧ m 1359 0 a = -1) ∨ (x = -12 ∧ m 1359 0 a ≤ -2)))) → Q (some (vi x)) m := by
    intro x hx
    have no : ∀ y : Int, y = x → rk (some .int) (some (vi y)) ∧ some (vi y) = some (vi x) ∧ m = m := fun y hy => ⟨trivial, by rw [hy], rfl⟩
    exact hQ _ _ (Y_met rfl 0 rfl (sg_X12_taken_0 _ _ _ _ (cm_isShelf fun y hy => ⟨y, rfl, fun c => no _ (by omega), fun c => cm_in fun z hz => ⟨z, rfl, fun c2 => ⟨by omega, fun c3 => ⟨by omega, fun c4 => no _ (by omega), fun c4 => by exfalso; omega⟩, fun c3 => no _ (by omega)⟩, fun c2 => no _ (by omega)⟩⟩)))
  refine Y_met rfl 2 rfl (sg_X11_taken_0 _ _ _ _ (cc_noSuchShelf fun x hx => ⟨x, rfl, fun c => ⟨trivial, bad _ (by omega)⟩, fun c => ⟨fun c2 => ⟨trivial, bad _ (by omega)⟩, fun c2 => ⟨fun c3 => ⟨by omega, ?_⟩, fun c3 => ⟨trivial, bad _ (by omega)⟩⟩⟩⟩))
  have ha : 0 ≤ a ∧ a ≤ 5 := by omega
  have sa := invS_at hI ha
  refine cc_isEmpty fun u hu => ⟨u, rfl, fun c4 => cc_holdsRow fun v hv => ⟨v, rfl, fun c5 => ⟨trivial, bad _ (by omega)⟩, fun c5 => ?_⟩, fun c4 => ⟨trivial, bad _ (by omega)⟩⟩
  have hb : 0 ≤ m 1359 0 a ∧ m 1359 0 a < m 12 0 55 ∧ m 10 a.toNat 3 = m 1359 0 a := by omega
  refine cc_knowsB fun w hw => ⟨w, rfl, fun c6 => ⟨by omega, ?_⟩, fun c6 => by exfalso; omega⟩
  have hk := h4 (m 1359 0 a) hb.1 hb.2.1
  rw [hb.2.2, hk.1]
  have fin : ∀ x : Int, (x = (m 1356 0 (m 1359 0 a)) ∧ unK (m 1356 0 (m 1359 0 a)) q ∨ x = -12 ∧ ¬ unK (m 1356 0 (m 1359 0 a)) q) → Q (some (vi x)) m := by
    intro x hx2
    refine hQ _ _ (Y_met rfl 0 rfl (sg_X12_taken_0 _ _ _ _ (cm_isShelf fun y hy => ⟨y, rfl, fun c => by omega, fun c => cm_in fun z hz => ⟨z, rfl, fun c2 => ⟨by omega, fun c3 => ⟨by omega, fun c4 => by omega, fun c4 => ⟨by omega, by omega, cm_isUnder fun t ht => ⟨t, rfl, fun c7 => ⟨trivial, ?_, rfl⟩, fun c7 => ⟨by omega, by omega, trivial, ?_, rfl⟩⟩⟩⟩, fun c3 => by omega⟩, fun c2 => by omega⟩⟩)))
    · rcases hx2 with hx2 | hx2
      · rcases ht with ht | ht
        · omega
        · exact absurd hx2.2 ht.2
      · rw [hx2.1]
    · rcases hx2 with hx2 | hx2
      · rw [hx2.1]
      · rcases ht with ht | ht
        · exact absurd ht.2 hx2.2
        · omega
  refine cc_isUnder hk.2.1 hk.2.2 (by omega) fun t ht => ⟨t, rfl, fun c7 => ⟨trivial, fin _ ?_⟩, fun c7 => ⟨trivial, fin _ ?_⟩⟩
  · rcases ht with ht | ht
    · omega
    · exact Or.inr ⟨rfl, ht.2⟩
  · rcases ht with ht | ht
    · exact Or.inl ⟨rfl, ht.2⟩
    · omega
end
