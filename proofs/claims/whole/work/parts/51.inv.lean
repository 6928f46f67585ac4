/-! cells by a code: the reference's own fields one by one, else the kind -/
def cdc (k : Nat) (i : Int) : Nat := if k = 12 then 5000 + i.toNat else k
/-- nothing but W was written -/
def FrM (W : List Nat) (m m2 : AMem) : Prop := ∀ k j i, cdc k i ∉ W → m2 k j i = m k j i
theorem FrM_refl (W : List Nat) (m : AMem) : FrM W m m := fun _ _ _ _ => rfl
theorem FrM_trans {W : List Nat} {m m2 m3 : AMem} (h : FrM W m m2) (h2 : FrM W m2 m3) : FrM W m m3 := fun k j i hc => (h2 k j i hc).trans (h k j i hc)
theorem FrM_mono {W W2 : List Nat} {m m2 : AMem} (h : FrM W m m2) (hs : ∀ c ∈ W, c ∈ W2) : FrM W2 m m2 := fun k j i hc => h k j i (fun q => hc (hs _ q))
theorem FrM_up {W : List Nat} {m m2 : AMem} {k j : Nat} {i v : Int} (h : FrM W m m2) (hc : cdc k i ∈ W) : FrM W m (upM m2 k j i v) := by
  intro k2 j2 i2 h2
  unfold upM
  split
  · split
    · split
      · rename_i e1 e2 e3
        subst e1; subst e3
        exact absurd hc h2
      · exact h _ _ _ h2
    · exact h _ _ _ h2
  · exact h _ _ _ h2
theorem FrM_cp {W : List Nat} {m m2 : AMem} {k j ks js : Nat} {dp sp n : Int} (h : FrM W m m2) (hk : k ≠ 12) (hc : k ∈ W) : FrM W m (cpM m2 k j dp ks js sp n) := by
  intro k2 j2 i2 h2
  unfold cpM
  split
  · split
    · split
      · rename_i e1 e2 e3
        subst e1
        unfold cdc at h2
        rw [if_neg hk] at h2
        exact absurd hc h2
      · exact h _ _ _ h2
    · exact h _ _ _ h2
  · exact h _ _ _ h2
/-- the cells of F are the same -/
def Sm (F : List Nat) (m m2 : AMem) : Prop := ∀ k j i, cdc k i ∈ F → m2 k j i = m k j i
theorem Sm_of {W F : List Nat} {m m2 : AMem} (h : FrM W m m2) (hd : F.all (fun c => !W.contains c) = true) : Sm F m m2 := fun k j i hc => h k j i (fun q => by
  have := List.all_eq_true.mp hd _ hc
  simp only [Bool.not_eq_true', List.contains_eq_mem, decide_eq_false_iff_not] at this
  exact this q)
def tbt (s i : Int) : Int := an32 (shr32 s i) 1
def okV (w v : Int) : Prop := (romL 2001).getD w.toNat 0 ≤ v ∧ v ≤ (romL 2000).getD w.toNat 0
def InvH (m : AMem) : Prop :=
  (0 ≤ m 12 0 1 ∧ m 12 0 1 ≤ 7 ∧ m 2 0 5 = m 12 0 1) ∧
  (∀ i : Int, 0 ≤ i → i < m 12 0 1 → (m 300 0 i = m 1302 0 i ∧ 0 ≤ m 1302 0 i ∧ m 1302 0 i ≤ 8) ∧ (m 301 0 i = m 1303 0 i ∧ 1 ≤ m 1303 0 i ∧ m 1303 0 i ≤ 8) ∧ (m 302 0 i = m 1304 0 i ∧ 0 ≤ m 1304 0 i ∧ m 1304 0 i ≤ 9) ∧ (m 1305 0 i = 0 ∨ m 1305 0 i = 1) ∧ tbt (m 2 0 4) i = m 1305 0 i) ∧
  (0 ≤ m 2 0 4 ∧ m 2 0 4 < 128 ∧ ∀ i : Int, m 12 0 1 ≤ i → i < 7 → tbt (m 2 0 4) i = 0) ∧
  (∀ w : Int, 4 ≤ w → w ≤ 13 → m 303 0 w = m 1306 0 (w - 4) ∧ okV w (m 303 0 w))
def fpH : List Nat := [5001, 2, 300, 301, 302, 303, 1302, 1303, 1304, 1305, 1306]
theorem InvH_sm {m m2 : AMem} (h : Sm fpH m m2) (hI : InvH m) : InvH m2 := by
  have e1 : m2 12 0 1 = m 12 0 1 := h _ _ _ (by decide)
  have e2 : m2 2 0 5 = m 2 0 5 := h _ _ _ (by decide)
  have e3 : m2 2 0 4 = m 2 0 4 := h _ _ _ (by decide)
  have c : ∀ k i, k ≠ 12 → k ∈ fpH → m2 k 0 i = m k 0 i := fun k i hk hc => h _ _ _ (by unfold cdc; rw [if_neg hk]; exact hc)
  have e4 : ∀ i, m2 300 0 i = m 300 0 i := fun i => c _ i (by decide) (by decide)
  have e5 : ∀ i, m2 301 0 i = m 301 0 i := fun i => c _ i (by decide) (by decide)
  have e6 : ∀ i, m2 302 0 i = m 302 0 i := fun i => c _ i (by decide) (by decide)
  have e7 : ∀ i, m2 303 0 i = m 303 0 i := fun i => c _ i (by decide) (by decide)
  have f1 : ∀ i, m2 1302 0 i = m 1302 0 i := fun i => c _ i (by decide) (by decide)
  have f2 : ∀ i, m2 1303 0 i = m 1303 0 i := fun i => c _ i (by decide) (by decide)
  have f3 : ∀ i, m2 1304 0 i = m 1304 0 i := fun i => c _ i (by decide) (by decide)
  have f4 : ∀ i, m2 1305 0 i = m 1305 0 i := fun i => c _ i (by decide) (by decide)
  have f5 : ∀ i, m2 1306 0 i = m 1306 0 i := fun i => c _ i (by decide) (by decide)
  unfold InvH
  simp only [e1, e2, e3, e4, e5, e6, e7, f1, f2, f3, f4, f5]
  exact hI
def okCh (n what number b a : Int) : Prop := ((0 ≤ what ∧ what ≤ 3 ∧ 0 ≤ number ∧ number < n) ∨ (4 ≤ what ∧ what ≤ 13 ∧ number = 0)) ∧ okV what b ∧ okV what a
def InvC (m : AMem) : Prop :=
  (0 ≤ m 12 0 7 ∧ 0 ≤ m 12 0 8 ∧ m 12 0 7 + m 12 0 8 ≤ 40 ∧ m 1 0 4 = m 12 0 7 ∧ m 1 0 5 = m 12 0 7 + m 12 0 8) ∧
  ∀ i : Int, 0 ≤ i → i < m 12 0 7 + m 12 0 8 → m 200 0 i = m 1310 0 i ∧ m 201 0 i = m 1309 0 i ∧ m 202 0 i = m 1311 0 i ∧ m 203 0 i = m 1312 0 i ∧ okCh (m 12 0 1) (m 1309 0 i) (m 1310 0 i) (m 1311 0 i) (m 1312 0 i)
def fpC : List Nat := [5001, 5007, 5008, 1, 200, 201, 202, 203, 1309, 1310, 1311, 1312]
theorem InvC_sm {m m2 : AMem} (h : Sm fpC m m2) (hI : InvC m) : InvC m2 := by
  have e1 : m2 12 0 1 = m 12 0 1 := h _ _ _ (by decide)
  have e2 : m2 12 0 7 = m 12 0 7 := h _ _ _ (by decide)
  have e3 : m2 12 0 8 = m 12 0 8 := h _ _ _ (by decide)
  have e4 : m2 1 0 4 = m 1 0 4 := h _ _ _ (by decide)
  have e5 : m2 1 0 5 = m 1 0 5 := h _ _ _ (by decide)
  have c : ∀ k i, k ≠ 12 → k ∈ fpC → m2 k 0 i = m k 0 i := fun k i hk hc => h _ _ _ (by unfold cdc; rw [if_neg hk]; exact hc)
  have f1 : ∀ i, m2 200 0 i = m 200 0 i := fun i => c _ i (by decide) (by decide)
  have f2 : ∀ i, m2 201 0 i = m 201 0 i := fun i => c _ i (by decide) (by decide)
  have f3 : ∀ i, m2 202 0 i = m 202 0 i := fun i => c _ i (by decide) (by decide)
  have f4 : ∀ i, m2 203 0 i = m 203 0 i := fun i => c _ i (by decide) (by decide)
  have g1 : ∀ i, m2 1309 0 i = m 1309 0 i := fun i => c _ i (by decide) (by decide)
  have g2 : ∀ i, m2 1310 0 i = m 1310 0 i := fun i => c _ i (by decide) (by decide)
  have g3 : ∀ i, m2 1311 0 i = m 1311 0 i := fun i => c _ i (by decide) (by decide)
  have g4 : ∀ i, m2 1312 0 i = m 1312 0 i := fun i => c _ i (by decide) (by decide)
  unfold InvC
  simp only [e1, e2, e3, e4, e5, f1, f2, f3, f4, g1, g2, g3, g4]
  exact hI
def InvT (m : AMem) : Prop := (0 ≤ m 12 0 14 ∧ m 12 0 14 ≤ 120 ∧ m 4 0 1 = m 12 0 14) ∧ ∀ i : Int, 0 ≤ i → i < m 12 0 14 → 0 ≤ m 500 0 i ∧ m 500 0 i ≤ 255 ∧ m 1313 0 i = b8 (m 500 0 i)
def fpT : List Nat := [5014, 4, 500, 1313]
theorem InvT_sm {m m2 : AMem} (h : Sm fpT m m2) (hI : InvT m) : InvT m2 := by
  have e1 : m2 12 0 14 = m 12 0 14 := h _ _ _ (by decide)
  have e2 : m2 4 0 1 = m 4 0 1 := h _ _ _ (by decide)
  have c : ∀ k i, k ≠ 12 → k ∈ fpT → m2 k 0 i = m k 0 i := fun k i hk hc => h _ _ _ (by unfold cdc; rw [if_neg hk]; exact hc)
  have f1 : ∀ i, m2 500 0 i = m 500 0 i := fun i => c _ i (by decide) (by decide)
  have f2 : ∀ i, m2 1313 0 i = m 1313 0 i := fun i => c _ i (by decide) (by decide)
  unfold InvT
  simp only [e1, e2, f1, f2]
  exact hI
def InvM (m : AMem) : Prop :=
  (∀ i : Int, 0 ≤ i → i < 5 → m 600 0 i = m 1350 0 i) ∧ (m 5 0 4 = 0 ∨ m 5 0 4 = 1) ∧ m 12 0 51 = m 5 0 4 ∧
  (m 5 0 4 = 1 → (0 ≤ m 12 0 52 ∧ m 12 0 52 ≤ m 12 0 1) ∧ (∀ i : Int, 0 ≤ i → i < 5 → m 601 0 i = m 1354 0 i) ∧ (0 ≤ m 5 0 2 ∧ m 5 0 2 < 128 ∧ 0 ≤ m 5 0 3 ∧ m 5 0 3 < 128) ∧
    ∀ i : Int, 0 ≤ i → i < 7 → (i < m 12 0 52 → tbt (m 5 0 3) i = 1 ∧ tbt (m 5 0 2) i = m 1353 0 i ∧ (m 1353 0 i = 0 ∨ m 1353 0 i = 1)) ∧ (m 12 0 52 ≤ i → tbt (m 5 0 3) i = 0 ∧ tbt (m 5 0 2) i = 0))
def fpM : List Nat := [5001, 5051, 5052, 5, 600, 601, 1350, 1353, 1354]
theorem InvM_sm {m m2 : AMem} (h : Sm fpM m m2) (hI : InvM m) : InvM m2 := by
  have e1 : m2 12 0 1 = m 12 0 1 := h _ _ _ (by decide)
  have e2 : m2 12 0 51 = m 12 0 51 := h _ _ _ (by decide)
  have e3 : m2 12 0 52 = m 12 0 52 := h _ _ _ (by decide)
  have c : ∀ k i, k ≠ 12 → k ∈ fpM → m2 k 0 i = m k 0 i := fun k i hk hc => h _ _ _ (by unfold cdc; rw [if_neg hk]; exact hc)
  have f0 : ∀ i, m2 5 0 i = m 5 0 i := fun i => c _ i (by decide) (by decide)
  have f1 : ∀ i, m2 600 0 i = m 600 0 i := fun i => c _ i (by decide) (by decide)
  have f2 : ∀ i, m2 601 0 i = m 601 0 i := fun i => c _ i (by decide) (by decide)
  have f3 : ∀ i, m2 1350 0 i = m 1350 0 i := fun i => c _ i (by decide) (by decide)
  have f4 : ∀ i, m2 1353 0 i = m 1353 0 i := fun i => c _ i (by decide) (by decide)
  have f5 : ∀ i, m2 1354 0 i = m 1354 0 i := fun i => c _ i (by decide) (by decide)
  unfold InvM
  simp only [e1, e2, e3, f0, f1, f2, f3, f4, f5]
  exact hI
def InvBd (m : AMem) : Prop :=
  (0 ≤ m 12 0 55 ∧ m 12 0 55 ≤ 50 ∧ m 0 0 2 = m 12 0 55) ∧ (∀ i : Int, 0 ≤ i → i < m 12 0 55 → m 100 0 i = m 1356 0 i ∧ 0 ≤ m 1356 0 i ∧ m 1356 0 i ≤ 7) ∧
  (0 ≤ m 12 0 57 ∧ m 12 0 57 ≤ 1000 ∧ m 0 0 3 = m 12 0 57) ∧ ∀ i : Int, 0 ≤ i → i < m 12 0 57 → i < 24 → m 101 0 i = m 1358 0 i
def fpB : List Nat := [5055, 5057, 0, 100, 101, 1356, 1358]
theorem InvBd_sm {m m2 : AMem} (h : Sm fpB m m2) (hI : InvBd m) : InvBd m2 := by
  have e1 : m2 12 0 55 = m 12 0 55 := h _ _ _ (by decide)
  have e2 : m2 12 0 57 = m 12 0 57 := h _ _ _ (by decide)
  have c : ∀ k i, k ≠ 12 → k ∈ fpB → m2 k 0 i = m k 0 i := fun k i hk hc => h _ _ _ (by unfold cdc; rw [if_neg hk]; exact hc)
  have f0 : ∀ i, m2 0 0 i = m 0 0 i := fun i => c _ i (by decide) (by decide)
  have f1 : ∀ i, m2 100 0 i = m 100 0 i := fun i => c _ i (by decide) (by decide)
  have f2 : ∀ i, m2 101 0 i = m 101 0 i := fun i => c _ i (by decide) (by decide)
  have f3 : ∀ i, m2 1356 0 i = m 1356 0 i := fun i => c _ i (by decide) (by decide)
  have f4 : ∀ i, m2 1358 0 i = m 1358 0 i := fun i => c _ i (by decide) (by decide)
  unfold InvBd
  simp only [e1, e2, f0, f1, f2, f3, f4]
  exact hI
def InvS (m : AMem) : Prop := ∀ s : Nat, s < 6 →
  ((m 1359 0 s = -1 ∧ m 10 s 4 = 0) ∨ (0 ≤ m 1359 0 s ∧ m 1359 0 s < m 12 0 55 ∧ m 10 s 4 = 1 ∧ m 10 s 3 = m 1359 0 s) ∨ (-6 ≤ m 1359 0 s ∧ m 1359 0 s ≤ -2 ∧ m 10 s 4 = 2 ∧ m 10 s 2 = -2 - m 1359 0 s)) ∧
  (0 ≤ m 1360 0 s ∧ m 1360 0 s ≤ 60 ∧ m 10 s 1 = m 1360 0 s) ∧ ∀ i : Int, 0 ≤ i → i < 60 → m 1100 s i = m 1361 0 (60 * s + i) ∧ (m 1359 0 s = -2 → -128 ≤ m 1100 s i ∧ m 1100 s i ≤ 127)
def fpS : List Nat := [5055, 10, 1100, 1359, 1360, 1361]
theorem InvS_sm {m m2 : AMem} (h : Sm fpS m m2) (hI : InvS m) : InvS m2 := by
  have e1 : m2 12 0 55 = m 12 0 55 := h _ _ _ (by decide)
  have c : ∀ k j i, k ≠ 12 → k ∈ fpS → m2 k j i = m k j i := fun k j i hk hc => h _ _ _ (by unfold cdc; rw [if_neg hk]; exact hc)
  have f0 : ∀ j i, m2 10 j i = m 10 j i := fun j i => c _ j i (by decide) (by decide)
  have f1 : ∀ j i, m2 1100 j i = m 1100 j i := fun j i => c _ j i (by decide) (by decide)
  have f2 : ∀ j i, m2 1359 j i = m 1359 j i := fun j i => c _ j i (by decide) (by decide)
  have f3 : ∀ j i, m2 1360 j i = m 1360 j i := fun j i => c _ j i (by decide) (by decide)
  have f4 : ∀ j i, m2 1361 j i = m 1361 j i := fun j i => c _ j i (by decide) (by decide)
  unfold InvS
  simp only [e1, f0, f1, f2, f3, f4]
  exact hI
