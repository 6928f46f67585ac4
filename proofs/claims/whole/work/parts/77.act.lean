/-! acts: what runs and what comes of it, by kinds -/
def goT (k : Int) : List Int := if k = 1 ∨ k = 4 then [20, 1] else if k = 7 then [81, 70, 1] else if k = 6 then [70, 1] else [1]
def goV (k n x : Int) : Int := if k = 1 ∨ k = 4 then w32 (w32 (x + n) + 3) else if k = 7 then w32 (w32 (w32 (x + n) * 2) - 1) else if k = 6 then w32 (w32 (x + n) * 2) else w32 (x + n)
def hoT (k : Int) : List Int := if k = 5 then [60, 40, 11] ++ goT k else if k = 3 then [40, 11] else [11]
def hoV (k n x : Int) : Int := if k = 5 then w32 (w32 (xo32 x n * 3) - goV k n 2) else if k = 3 then w32 (xo32 x n * 3) else xo32 x n
def toT (k : Int) : List Int := if k = 3 ∨ k = 5 then [41, 30, 10] ++ goT k else if k = 7 then [80, 10] ++ goT k ++ hoT k else if k = 2 then [30, 10] ++ goT k else [10] ++ goT k
def toV (k n x : Int) : Int := if k = 3 ∨ k = 5 then w32 (-(w32 (goV k n (w32 (x + 1)) * 2))) else if k = 7 then w32 (w32 (goV k n x * 2) + hoV k n 2) else if k = 2 then w32 (-(w32 (goV k n x * 2))) else w32 (goV k n x * 2)
def teT (k : Int) : List Int := if k = 4 then [50, 2] ++ toT k ++ hoT k else if k = 5 then [61, 2] ++ toT k ++ hoT k else [2] ++ toT k ++ hoT k
def teV (k n x : Int) : Int := if k = 4 then xo32 (w32 (toV k n x - hoV k n 1)) 5 else if k = 5 then w32 (w32 (toV k n x - hoV k n 1) + 1) else w32 (toV k n x - hoV k n 1)
theorem goT_len (k : Int) : (goT k).length ≤ 3 := by
  unfold goT
  (repeat' split) <;> simp
theorem hoT_len (k : Int) : (hoT k).length ≤ 6 := by
  have := goT_len k
  unfold hoT
  (repeat' split) <;> simp <;> omega
theorem toT_len (k : Int) : (toT k).length ≤ 11 := by
  have h1 := goT_len k
  have h2 := hoT_len k
  unfold toT
  (repeat' split) <;> simp <;> omega
theorem teT_len (k : Int) : (teT k).length ≤ 19 := by
  have h1 := toT_len k
  have h2 := hoT_len k
  unfold teT
  (repeat' split) <;> simp <;> omega
/-- the trace of the class, of the reference -/
def TrC (c : Int) (m : AMem) (l : List Int) : Prop := m 0 0 2 = c ∧ m 0 0 3 = l.length ∧ ∀ (i : Nat) (v : Int), l[i]? = some v → i < 24 → m 101 0 i = v
def TrM (m : AMem) (l : List Int) : Prop := m 12 0 57 = l.length ∧ ∀ (i : Nat) (v : Int), l[i]? = some v → i < 24 → m 1358 0 i = v
section
variable {d : Nat} {m : AMem} {Q : Option AV → AMem → Prop} {c : Int} {l : List Int}
theorem l_app {l : List Int} {v w : Int} {i : Nat} (h : (l ++ [v])[i]? = some w) : (i < l.length ∧ l[i]? = some w) ∨ (i = l.length ∧ w = v) := by
  by_cases e : i < l.length
  · rw [List.getElem?_append_left e] at h
    exact Or.inl ⟨e, h⟩
  · rw [List.getElem?_append_right (by omega)] at h
    by_cases e2 : i - l.length = 0
    · rw [e2] at h
      simp at h
      exact Or.inr ⟨by omega, h.symm⟩
    · rw [List.getElem?_eq_none (by simp; omega)] at h
      cases h
theorem cc_bg {v : Int} (hT : TrC c m l) (hl : l.length ≤ 1000) (h : ∀ m2, FrM [0, 101] m m2 → TrC c m2 (l ++ [v]) → Q none m2) : MtX yX0_begin cX0_begin 2 none (d + 1) [vr 0 0, vi v] m Q := by
  obtain ⟨t1, t2, t3⟩ := hT
  refine Y_met rfl 0 rfl (sg_X0_begin_0 _ _ _ ?_)
  rw [t2, w32i (z := (l.length : Int) + 1) (by omega) (by omega)]
  refine ⟨fun q => ⟨trivial, h _ (FrM_uk (FrM_refl _ _) (by decide) (by decide)) ⟨by simpa [upM] using t1, by simp [upM], fun i w hw hi => ?_⟩⟩, fun q => ⟨by omega, trivial, h _ (FrM_uk (FrM_uk (FrM_refl _ _) (by decide) (by decide)) (by decide) (by decide)) ⟨by simpa [upM] using t1, by simp [upM], fun i w hw hi => ?_⟩⟩⟩
  · rcases l_app hw with ⟨h1, h2⟩ | ⟨h1, h2⟩
    · rw [up_k (by decide)]; exact t3 i w h2 hi
    · omega
  · rw [up_k (by decide), up_eq]
    rcases l_app hw with ⟨h1, h2⟩ | ⟨h1, h2⟩
    · rw [if_neg (by omega)]; exact t3 i w h2 hi
    · rw [if_pos (by omega)]; exact h2.symm
theorem cm_ran {v : Int} (hT : TrM m l) (hl : l.length ≤ 1000) (h : ∀ m2, FrM [5057, 1358] m m2 → TrM m2 (l ++ [v]) → Q none m2) : MtX yX12_ran cX12_ran 2 none (d + 1) [vr 12 0, vi v] m Q := by
  obtain ⟨t2, t3⟩ := hT
  refine Y_met rfl 0 rfl (sg_X12_ran_0 _ _ _ ?_)
  rw [t2, w32i (z := (l.length : Int) + 1) (by omega) (by omega)]
  refine ⟨fun q => ⟨trivial, h _ (FrM_up (FrM_refl _ _) (by decide)) ⟨by simp [upM], fun i w hw hi => ?_⟩⟩, fun q => ⟨by omega, trivial, h _ (FrM_up (FrM_uk (FrM_refl _ _) (by decide) (by decide)) (by decide)) ⟨by simp [upM], fun i w hw hi => ?_⟩⟩⟩
  · rcases l_app hw with ⟨h1, h2⟩ | ⟨h1, h2⟩
    · rw [up_k (by decide)]; exact t3 i w h2 hi
    · omega
  · rw [up_k (by decide), up_eq]
    rcases l_app hw with ⟨h1, h2⟩ | ⟨h1, h2⟩
    · rw [if_neg (by omega)]; exact t3 i w h2 hi
    · rw [if_pos (by omega)]; exact h2.symm
/-! the class: by the tables of kinds -/
def ownN (k a : Int) : Int := (romL 2004).getD (k * 4 + a).toNat 0
def nrF : Nat → Int → Int → Int
  | 0, f, _ => f
  | r + 1, f, a => if f < 0 then f else if ownN f a ≠ 0 then f else nrF r (abK f) a
theorem nrF_s {r : Nat} {f a : Int} : nrF (r + 1) f a = if f < 0 then f else if ownN f a ≠ 0 then f else nrF r (abK f) a := rfl
theorem own_ix {k a : Int} (h0 : 0 ≤ k) (h1 : k ≤ 7) (ha : 0 ≤ a ∧ a ≤ 3) : w32 (w32 (k * 4) + a) = k * 4 + a ∧ 0 ≤ k * 4 + a ∧ k * 4 + a < ((romL 2004).length : Int) := by
  have hl : ((romL 2004).length : Int) = 32 := by decide +kernel
  rw [hl]
  refine ⟨?_, by omega, by omega⟩
  rw [w32i (z := k * 4) (by omega) (by omega), w32i (by omega) (by omega)]
theorem cc_run {f a x n dep K : Int} (hf : 0 ≤ f ∧ f ≤ 7) (ha : 0 ≤ a ∧ a ≤ 3) (hK : nrF 8 f a = K) (hK0 : 0 ≤ K ∧ K ≤ 7) (hd : dep ≤ 40)
    (h : ∀ a7 : Int, Y cX0_run 8 RX0 (d + 1) none 45 [some (vr 0 0), some (vi n), some (vi f), some (vi a), some (vi x), some (vi dep), some (vi K), some (vi a7)] [] m (fun r mem2 => rk (some .int) r ∧ Q r mem2)) : MtX yX0_run cX0_run 8 (some .int) (d + 1) [vr 0 0, vi n, vi f, vi a, vi x, vi dep] m Q := by
  have hl3 : ((romL 2003).length : Int) = 8 := by decide +kernel
  have key : ∀ (r : Nat) (i u : Int), i + r = 8 → 0 ≤ i → -1 ≤ u → u ≤ 7 → nrF r u a = K → Y cX0_run 8 RX0 (d + 1) none 6 [some (vr 0 0), some (vi n), some (vi f), some (vi a), some (vi x), some (vi dep), some (vi u), some (vi i)] [] m (fun r mem2 => rk (some .int) r ∧ Q r mem2) := by
    intro r
    induction r with
    | zero =>
      intro i u hi h0 hu hu2 he
      have he : u = K := he
      subst he
      exact sg_X0_run_6 _ _ _ _ _ _ _ _ _ ⟨fun _ => h i, fun c => by omega⟩
    | succ r ih =>
      intro i u hi h0 hu hu2 he
      rw [nrF_s] at he
      refine sg_X0_run_6 _ _ _ _ _ _ _ _ _ ⟨fun c => by omega, fun _ => ⟨fun c => ?_, fun c => ?_⟩⟩
      · rw [if_pos c] at he; subst he; exact h i
      · rw [if_neg c] at he
        obtain ⟨o1, o2, o3⟩ := own_ix (k := u) (by omega) hu2 ha
        rw [o1]
        refine ⟨⟨o2, o3⟩, fun c2 => ?_, fun c2 => ⟨by rw [hl3]; omega, ?_⟩⟩
        · have c2 : ownN u a ≠ 0 := c2
          rw [if_pos c2] at he; subst he; exact h i
        · have c2 : ownN u a = 0 := c2
          rw [if_neg (fun z => z c2)] at he
          have hu3 := abK_rg (k := u) (by omega) hu2
          rw [w32i (z := i + 1) (by omega) (by omega)]
          exact ih (i + 1) (abK u) (by omega) (by omega) hu3.1 (by omega) he
  exact Y_met rfl 2 rfl (sg_X0_run_0 _ _ _ _ _ _ _ (key 8 0 f (by decide) (by decide) (by omega) hf.2 hK))
end
section
variable {d : Nat} {Q : Option AV → AMem → Prop} {c n : Int}
/-- bodies by their number alone: 1, 11 -/
theorem cc_r1 {m : AMem} {l : List Int} {f x dep : Int} (hf : 0 ≤ f ∧ f ≤ 7) (hK : nrF 8 f 0 = 0) (hd : dep ≤ 40) (hT : TrC c m l) (hl : l.length ≤ 900) (h : ∀ m2, FrM [0, 101] m m2 → TrC c m2 (l ++ [1]) → Q (some (vi (w32 (x + n)))) m2) : MtX yX0_run cX0_run 8 (some .int) (d + 2) [vr 0 0, vi n, vi f, vi 0, vi x, vi dep] m Q := by
  refine cc_run hf (by decide) hK (by decide) hd fun a7 => sg_X0_run_45 _ _ _ _ _ _ _ _ _ ⟨fun z => absurd z (by decide), fun _ => ⟨fun _ => ⟨by decide, ?_⟩, fun z => absurd hd z⟩⟩
  have e : (romL 2004).getD (Int.toNat (w32 (w32 (0 * 4) + 0))) 0 = 1 := by decide +kernel
  rw [e]
  refine cc_bg hT (by omega) fun m2 hF hT2 => ⟨rfl, fun _ => ⟨trivial, h m2 hF hT2⟩, fun z => absurd z (by decide), fun z => absurd z (by decide), fun z => absurd z (by decide), fun z => absurd z (by decide), fun z => absurd rfl z⟩
theorem cc_r11 {m : AMem} {l : List Int} {f x dep : Int} (hf : 0 ≤ f ∧ f ≤ 7) (hK : nrF 8 f 2 = 0) (hd : dep ≤ 40) (hT : TrC c m l) (hl : l.length ≤ 900) (h : ∀ m2, FrM [0, 101] m m2 → TrC c m2 (l ++ [11]) → Q (some (vi (xo32 x n))) m2) : MtX yX0_run cX0_run 8 (some .int) (d + 2) [vr 0 0, vi n, vi f, vi 2, vi x, vi dep] m Q := by
  refine cc_run hf (by decide) hK (by decide) hd fun a7 => sg_X0_run_45 _ _ _ _ _ _ _ _ _ ⟨fun z => absurd z (by decide), fun _ => ⟨fun _ => ⟨by decide, ?_⟩, fun z => absurd hd z⟩⟩
  have e : (romL 2004).getD (Int.toNat (w32 (w32 (0 * 4) + 2))) 0 = 11 := by decide +kernel
  rw [e]
  refine cc_bg hT (by omega) fun m2 hF hT2 => ⟨rfl, fun z => absurd z (by decide), fun z => absurd z (by decide), fun z => absurd z (by decide), fun _ => ⟨trivial, h m2 hF hT2⟩, fun z => absurd z (by decide), fun _ _ _ z => absurd rfl z⟩
/-- a body upon what comes from above: its number v, kind K, above it A -/
theorem cc_rU {m : AMem} {l : List Int} {f a x dep K A v : Int} (hf : 0 ≤ f ∧ f ≤ 7) (ha : 0 ≤ a ∧ a ≤ 3) (hK : nrF 8 f a = K) (hK0 : 0 ≤ K ∧ K ≤ 7) (hv : ownN K a = v) (hA : abK K = A) (hvv : 12 ≤ v ∧ v ≠ 41) (hd : -10 ≤ dep ∧ dep ≤ 39) (hT : TrC c m l) (hl : l.length ≤ 900)
    (h : ∀ m2, FrM [0, 101] m m2 → TrC c m2 (l ++ [v]) → MtX yX0_run cX0_run 8 (some .int) (d + 1) [vr 0 0, vi n, vi A, vi a, vi x, vi (dep + 1)] m2 (fun r m3 => ∃ y : Int, r = some (vi y) ∧ MtX yX0_uponAbove cX0_uponAbove 5 (some .int) (d + 1) [vr 0 0, vi v, vi y, vi n, vi dep] m3 (fun r m4 => ∃ z : Int, r = some (vi z) ∧ (rk (some .int) (some (vi z)) ∧ Q (some (vi z)) m4)))) : MtX yX0_run cX0_run 8 (some .int) (d + 2) [vr 0 0, vi n, vi f, vi a, vi x, vi dep] m Q := by
  obtain ⟨o1, o2, o3⟩ := own_ix hK0.1 hK0.2 ha
  have hl3 : ((romL 2003).length : Int) = 8 := by decide +kernel
  refine cc_run hf ha hK hK0 (by omega) fun a7 => sg_X0_run_45 _ _ _ _ _ _ _ _ _ ⟨fun z => by omega, fun _ => ⟨fun _ => ?_, fun z => by omega⟩⟩
  rw [o1]
  have e : (romL 2004).getD (Int.toNat (K * 4 + a)) 0 = v := hv
  have e2 : (romL 2003).getD (Int.toNat K) 0 = A := hA
  rw [e, e2, w32i (z := dep + 1) (by omega) (by omega)]
  refine ⟨⟨o2, o3⟩, cc_bg hT (by omega) fun m2 hF hT2 => ⟨rfl, fun z => by omega, fun z => by omega, fun z => by omega, fun z => by omega, fun z => by omega, fun _ _ _ _ _ => ⟨by rw [hl3]; omega, h m2 hF hT2⟩⟩⟩
theorem up_20 {m : AMem} {y dep : Int} (h : Q (some (vi (w32 (y + 3)))) m) : MtX yX0_uponAbove cX0_uponAbove 5 (some .int) (d + 1) [vr 0 0, vi 20, vi y, vi n, vi dep] m Q :=
  Y_met rfl 0 rfl (sg_X0_uponAbove_0 _ _ _ _ _ _ ⟨fun _ => ⟨trivial, h⟩, fun z => absurd z (by decide), fun z => absurd z (by decide), fun z => absurd z (by decide), fun z => absurd z (by decide), fun z => absurd z (by decide), fun z => absurd z (by decide), fun z => absurd z (by decide), fun z => absurd z (by decide), fun z => absurd rfl z⟩)
theorem up_30 {m : AMem} {y dep : Int} (h : Q (some (vi (w32 (-y)))) m) : MtX yX0_uponAbove cX0_uponAbove 5 (some .int) (d + 1) [vr 0 0, vi 30, vi y, vi n, vi dep] m Q :=
  Y_met rfl 0 rfl (sg_X0_uponAbove_0 _ _ _ _ _ _ ⟨fun z => absurd z (by decide), fun _ => ⟨trivial, h⟩, fun z => absurd z (by decide), fun z => absurd z (by decide), fun z => absurd z (by decide), fun z => absurd z (by decide), fun z => absurd z (by decide), fun z => absurd z (by decide), fun z => absurd z (by decide), fun _ z => absurd rfl z⟩)
theorem up_40 {m : AMem} {y dep : Int} (h : Q (some (vi (w32 (y * 3)))) m) : MtX yX0_uponAbove cX0_uponAbove 5 (some .int) (d + 1) [vr 0 0, vi 40, vi y, vi n, vi dep] m Q :=
  Y_met rfl 0 rfl (sg_X0_uponAbove_0 _ _ _ _ _ _ ⟨fun z => absurd z (by decide), fun z => absurd z (by decide), fun _ => ⟨trivial, h⟩, fun z => absurd z (by decide), fun z => absurd z (by decide), fun z => absurd z (by decide), fun z => absurd z (by decide), fun z => absurd z (by decide), fun z => absurd z (by decide), fun _ _ z => absurd rfl z⟩)
theorem up_50 {m : AMem} {y dep : Int} (h : Q (some (vi (xo32 y 5))) m) : MtX yX0_uponAbove cX0_uponAbove 5 (some .int) (d + 1) [vr 0 0, vi 50, vi y, vi n, vi dep] m Q :=
  Y_met rfl 0 rfl (sg_X0_uponAbove_0 _ _ _ _ _ _ ⟨fun z => absurd z (by decide), fun z => absurd z (by decide), fun z => absurd z (by decide), fun _ => ⟨trivial, h⟩, fun z => absurd z (by decide), fun z => absurd z (by decide), fun z => absurd z (by decide), fun z => absurd z (by decide), fun z => absurd z (by decide), fun _ _ _ z => absurd rfl z⟩)
theorem up_61 {m : AMem} {y dep : Int} (h : Q (some (vi (w32 (y + 1)))) m) : MtX yX0_uponAbove cX0_uponAbove 5 (some .int) (d + 1) [vr 0 0, vi 61, vi y, vi n, vi dep] m Q :=
  Y_met rfl 0 rfl (sg_X0_uponAbove_0 _ _ _ _ _ _ ⟨fun z => absurd z (by decide), fun z => absurd z (by decide), fun z => absurd z (by decide), fun z => absurd z (by decide), fun z => absurd z (by decide), fun _ => ⟨trivial, h⟩, fun z => absurd z (by decide), fun z => absurd z (by decide), fun z => absurd z (by decide), fun _ _ _ _ _ z => absurd rfl z⟩)
theorem up_70 {m : AMem} {y dep : Int} (h : Q (some (vi (w32 (y * 2)))) m) : MtX yX0_uponAbove cX0_uponAbove 5 (some .int) (d + 1) [vr 0 0, vi 70, vi y, vi n, vi dep] m Q :=
  Y_met rfl 0 rfl (sg_X0_uponAbove_0 _ _ _ _ _ _ ⟨fun z => absurd z (by decide), fun z => absurd z (by decide), fun z => absurd z (by decide), fun z => absurd z (by decide), fun z => absurd z (by decide), fun z => absurd z (by decide), fun _ => ⟨trivial, h⟩, fun z => absurd z (by decide), fun z => absurd z (by decide), fun _ _ _ _ _ _ z => absurd rfl z⟩)
theorem up_81 {m : AMem} {y dep : Int} (h : Q (some (vi (w32 (y - 1)))) m) : MtX yX0_uponAbove cX0_uponAbove 5 (some .int) (d + 1) [vr 0 0, vi 81, vi y, vi n, vi dep] m Q :=
  Y_met rfl 0 rfl (sg_X0_uponAbove_0 _ _ _ _ _ _ ⟨fun z => absurd z (by decide), fun z => absurd z (by decide), fun z => absurd z (by decide), fun z => absurd z (by decide), fun z => absurd z (by decide), fun z => absurd z (by decide), fun z => absurd z (by decide), fun z => absurd z (by decide), fun _ => ⟨trivial, h⟩, fun _ _ _ _ _ _ _ _ z => absurd rfl z⟩)
theorem cc_own {m : AMem} {k a x dep : Int} (hn : 0 ≤ n ∧ n < 50) (hk : m 100 0 n = k) (hd : -10 ≤ dep ∧ dep ≤ 100) (h : MtX yX0_run cX0_run 8 (some .int) d [vr 0 0, vi n, vi k, vi a, vi x, vi (dep + 1)] m (fun r m1 => ∃ y : Int, r = some (vi y) ∧ Q (some (vi y)) m1)) : MtX yX0_own cX0_own 5 (some .int) (d + 1) [vr 0 0, vi n, vi a, vi x, vi dep] m Q := by
  refine Y_met rfl 0 rfl (sg_X0_own_0 _ _ _ _ _ _ ?_)
  rw [hk, w32i (z := dep + 1) (by omega) (by omega)]
  refine ⟨hn, MtX_mono h fun r m1 hq => ?_⟩
  obtain ⟨y, rfl, h2⟩ := hq
  exact ⟨y, rfl, trivial, h2⟩
theorem nr0 : ∀ k : Fin 8, nrF 8 ((k.val : Nat) : Int) 0 = (if k.val = 1 ∨ k.val = 4 then 1 else if k.val = 7 then 7 else if k.val = 6 then 6 else 0) ∧ nrF 8 ((k.val : Nat) : Int) 1 = (if k.val = 3 ∨ k.val = 5 then 3 else if k.val = 7 then 7 else if k.val = 2 then 2 else 0) ∧ nrF 8 ((k.val : Nat) : Int) 2 = (if k.val = 5 then 5 else if k.val = 3 then 3 else 0) ∧ nrF 8 ((k.val : Nat) : Int) 3 = (if k.val = 4 then 4 else if k.val = 5 then 5 else 0) := by decide +kernel
theorem nrA {k : Int} (h0 : 0 ≤ k) (h1 : k ≤ 7) : nrF 8 k 0 = (if k = 1 ∨ k = 4 then 1 else if k = 7 then 7 else if k = 6 then 6 else 0) ∧ nrF 8 k 1 = (if k = 3 ∨ k = 5 then 3 else if k = 7 then 7 else if k = 2 then 2 else 0) ∧ nrF 8 k 2 = (if k = 5 then 5 else if k = 3 then 3 else 0) ∧ nrF 8 k 3 = (if k = 4 then 4 else if k = 5 then 5 else 0) := b_a8 (P := fun k => nrF 8 k 0 = (if k = 1 ∨ k = 4 then 1 else if k = 7 then 7 else if k = 6 then 6 else 0) ∧ nrF 8 k 1 = (if k = 3 ∨ k = 5 then 3 else if k = 7 then 7 else if k = 2 then 2 else 0) ∧ nrF 8 k 2 = (if k = 5 then 5 else if k = 3 then 3 else 0) ∧ nrF 8 k 3 = (if k = 4 then 4 else if k = 5 then 5 else 0)) (by decide +kernel) h0 h1
theorem ll_app (l a b : List Int) : l ++ a ++ b = l ++ (a ++ b) := List.append_assoc l a b
theorem cc_go {m : AMem} {l : List Int} {k x dep : Int} (hn : 0 ≤ n ∧ n < 50) (hk : m 100 0 n = k) (hkr : 0 ≤ k ∧ k ≤ 7) (hd : 0 ≤ dep ∧ dep ≤ 20) (hT : TrC c m l) (hl : l.length ≤ 200) (h : ∀ m2, FrM [0, 101] m m2 → TrC c m2 (l ++ goT k) → Q (some (vi (goV k n x))) m2) : MtX yX0_own cX0_own 5 (some .int) (d + 5) [vr 0 0, vi n, vi 0, vi x, vi dep] m Q := by
  refine cc_own hn hk (by omega) ?_
  have hnr := (nrA hkr.1 hkr.2).1
  unfold goT goV at h
  by_cases c1 : k = 1 ∨ k = 4
  · rw [if_pos c1] at hnr h
    rw [if_pos c1] at h
    refine cc_rU (v := 20) (A := 0) hkr (by decide) hnr (by decide) (by decide +kernel) (by decide +kernel) (by decide) (by omega) hT (by omega) fun m2 hF hT2 => ?_
    refine cc_r1 (by decide) (by decide +kernel) (by omega) hT2 (by simp; omega) fun m3 hF3 hT3 => ⟨_, rfl, up_20 (by exact ⟨_, rfl, trivial, _, rfl, h m3 (FrM_trans hF hF3) (by rw [ll_app] at hT3; exact hT3)⟩)⟩
  · rw [if_neg c1] at hnr h
    rw [if_neg c1] at h
    by_cases c2 : k = 7
    · rw [if_pos c2] at hnr h
      rw [if_pos c2] at h
      refine cc_rU (v := 81) (A := 6) hkr (by decide) hnr (by decide) (by decide +kernel) (by decide +kernel) (by decide) (by omega) hT (by omega) fun m2 hF hT2 => ?_
      refine cc_rU (v := 70) (A := 0) (K := 6) (by decide) (by decide) (by decide +kernel) (by decide) (by decide +kernel) (by decide +kernel) (by decide) (by omega) hT2 (by simp; omega) fun m3 hF3 hT3 => ?_
      refine cc_r1 (by decide) (by decide +kernel) (by omega) hT3 (by simp; omega) fun m4 hF4 hT4 => ⟨_, rfl, up_70 (by exact ⟨_, rfl, trivial, _, rfl, up_81 (by exact ⟨_, rfl, trivial, _, rfl, h m4 (FrM_trans hF (FrM_trans hF3 hF4)) (by rw [ll_app, ll_app] at hT4; exact hT4)⟩)⟩)⟩
    · rw [if_neg c2] at hnr h
      rw [if_neg c2] at h
      by_cases c3 : k = 6
      · rw [if_pos c3] at hnr h
        rw [if_pos c3] at h
        refine cc_rU (v := 70) (A := 0) hkr (by decide) hnr (by decide) (by decide +kernel) (by decide +kernel) (by decide) (by omega) hT (by omega) fun m2 hF hT2 => ?_
        refine cc_r1 (by decide) (by decide +kernel) (by omega) hT2 (by simp; omega) fun m3 hF3 hT3 => ⟨_, rfl, up_70 (by exact ⟨_, rfl, trivial, _, rfl, h m3 (FrM_trans hF hF3) (by rw [ll_app] at hT3; exact hT3)⟩)⟩
      · rw [if_neg c3] at hnr h
        rw [if_neg c3] at h
        exact cc_r1 hkr hnr (by omega) hT (by omega) fun m2 hF hT2 => ⟨_, rfl, h m2 hF hT2⟩
theorem cc_r40 {m : AMem} {l : List Int} {f x dep : Int} (hf : 0 ≤ f ∧ f ≤ 7) (hK : nrF 8 f 2 = 3) (hd : 0 ≤ dep ∧ dep ≤ 30) (hT : TrC c m l) (hl : l.length ≤ 800) (h : ∀ m2, FrM [0, 101] m m2 → TrC c m2 (l ++ [40, 11]) → Q (some (vi (w32 (xo32 x n * 3)))) m2) : MtX yX0_run cX0_run 8 (some .int) (d + 3) [vr 0 0, vi n, vi f, vi 2, vi x, vi dep] m Q := by
  refine cc_rU (v := 40) (A := 2) hf (by decide) hK (by decide) (by decide +kernel) (by decide +kernel) (by decide) (by omega) hT (by omega) fun m2 hF hT2 => ?_
  refine cc_r11 (by decide) (by decide +kernel) (by omega) hT2 (by simp; omega) fun m3 hF3 hT3 => ⟨_, rfl, up_40 ?_⟩
  exact ⟨_, rfl, trivial, h m3 (FrM_trans hF hF3) (by rw [ll_app] at hT3; exact hT3)⟩
theorem cc_ho {m : AMem} {l : List Int} {k x dep : Int} (hn : 0 ≤ n ∧ n < 50) (hk : m 100 0 n = k) (hkr : 0 ≤ k ∧ k ≤ 7) (hd : 0 ≤ dep ∧ dep ≤ 10) (hT : TrC c m l) (hl : l.length ≤ 150) (h : ∀ m2, FrM [0, 101] m m2 → TrC c m2 (l ++ hoT k) → Q (some (vi (hoV k n x))) m2) : MtX yX0_own cX0_own 5 (some .int) (d + 8) [vr 0 0, vi n, vi 2, vi x, vi dep] m Q := by
  refine cc_own hn hk (by omega) ?_
  have hnr := (nrA hkr.1 hkr.2).2.2.1
  unfold hoT hoV at h
  by_cases c1 : k = 5
  · rw [if_pos c1] at hnr h
    rw [if_pos c1] at h
    refine cc_rU (v := 60) (A := 3) hkr (by decide) hnr (by decide) (by decide +kernel) (by decide +kernel) (by decide) (by omega) hT (by omega) fun m2 hF hT2 => ?_
    refine cc_r40 (by decide) (by decide +kernel) (by omega) hT2 (by simp; omega) fun m3 hF3 hT3 => ⟨_, rfl, ?_⟩
    refine Y_met rfl 0 rfl (sg_X0_uponAbove_0 _ _ _ _ _ _ ⟨fun z => absurd z (by decide), fun z => absurd z (by decide), fun z => absurd z (by decide), fun z => absurd z (by decide), fun _ => ?_, fun z => absurd z (by decide), fun z => absurd z (by decide), fun z => absurd z (by decide), fun z => absurd z (by decide), fun _ _ _ _ z => absurd rfl z⟩)
    have hk3 : m3 100 0 n = k := by rw [FrM_n hF3 (by decide) (by decide), FrM_n hF (by decide) (by decide)]; exact hk
    refine cc_go hn hk3 hkr (by omega) hT3 (by simp; omega) fun m4 hF4 hT4 => ⟨_, rfl, trivial, _, rfl, trivial, _, rfl, ?_⟩
    exact h m4 (FrM_trans hF (FrM_trans hF3 hF4)) (by rw [ll_app, ll_app] at hT4; exact hT4)
  · rw [if_neg c1] at hnr h
    rw [if_neg c1] at h
    by_cases c2 : k = 3
    · rw [if_pos c2] at hnr h
      rw [if_pos c2] at h
      exact cc_r40 hkr hnr (by omega) hT (by omega) fun m3 hF3 hT3 => ⟨_, rfl, h m3 hF3 hT3⟩
    · rw [if_neg c2] at hnr h
      rw [if_neg c2] at h
      exact cc_r11 hkr hnr (by omega) hT (by omega) fun m3 hF3 hT3 => ⟨_, rfl, h m3 hF3 hT3⟩
theorem cc_r10 {m : AMem} {l : List Int} {k f x dep : Int} (hn : 0 ≤ n ∧ n < 50) (hk : m 100 0 n = k) (hkr : 0 ≤ k ∧ k ≤ 7) (hf : 0 ≤ f ∧ f ≤ 7) (hK : nrF 8 f 1 = 0) (hd : 0 ≤ dep ∧ dep ≤ 20) (hT : TrC c m l) (hl : l.length ≤ 190) (h : ∀ m2, FrM [0, 101] m m2 → TrC c m2 (l ++ ([10] ++ goT k)) → Q (some (vi (w32 (goV k n x * 2)))) m2) : MtX yX0_run cX0_run 8 (some .int) (d + 6) [vr 0 0, vi n, vi f, vi 1, vi x, vi dep] m Q := by
  refine cc_run hf (by decide) hK (by decide) (by omega) fun a7 => sg_X0_run_45 _ _ _ _ _ _ _ _ _ ⟨fun z => absurd z (by decide), fun _ => ⟨fun _ => ⟨by decide, ?_⟩, fun z => by omega⟩⟩
  have e : (romL 2004).getD (Int.toNat (w32 (w32 (0 * 4) + 1))) 0 = 10 := by decide +kernel
  rw [e]
  refine cc_bg hT (by omega) fun m2 hF hT2 => ⟨rfl, fun z => absurd z (by decide), fun z => absurd z (by decide), fun _ => ?_, fun z => absurd z (by decide), fun z => absurd z (by decide), fun _ _ z => absurd rfl z⟩
  have hk2 : m2 100 0 n = k := by rw [FrM_n hF (by decide) (by decide)]; exact hk
  refine cc_go hn hk2 hkr hd hT2 (by simp; omega) fun m3 hF3 hT3 => ⟨_, rfl, trivial, h m3 (FrM_trans hF hF3) (by rw [ll_app] at hT3; exact hT3)⟩
theorem cc_r30 {m : AMem} {l : List Int} {k f x dep : Int} (hn : 0 ≤ n ∧ n < 50) (hk : m 100 0 n = k) (hkr : 0 ≤ k ∧ k ≤ 7) (hf : 0 ≤ f ∧ f ≤ 7) (hK : nrF 8 f 1 = 2) (hd : 0 ≤ dep ∧ dep ≤ 19) (hT : TrC c m l) (hl : l.length ≤ 180) (h : ∀ m2, FrM [0, 101] m m2 → TrC c m2 (l ++ ([30, 10] ++ goT k)) → Q (some (vi (w32 (-(w32 (goV k n x * 2)))))) m2) : MtX yX0_run cX0_run 8 (some .int) (d + 7) [vr 0 0, vi n, vi f, vi 1, vi x, vi dep] m Q := by
  refine cc_rU (v := 30) (A := 0) hf (by decide) hK (by decide) (by decide +kernel) (by decide +kernel) (by decide) (by omega) hT (by omega) fun m2 hF hT2 => ?_
  have hk2 : m2 100 0 n = k := by rw [FrM_n hF (by decide) (by decide)]; exact hk
  refine cc_r10 hn hk2 hkr (by decide) (by decide +kernel) (by omega) hT2 (by simp; omega) fun m3 hF3 hT3 => ⟨_, rfl, up_30 ?_⟩
  exact ⟨_, rfl, trivial, h m3 (FrM_trans hF hF3) (by rw [ll_app] at hT3; exact hT3)⟩
theorem cc_to {m : AMem} {l : List Int} {k x dep : Int} (hn : 0 ≤ n ∧ n < 50) (hk : m 100 0 n = k) (hkr : 0 ≤ k ∧ k ≤ 7) (hd : 0 ≤ dep ∧ dep ≤ 8) (hT : TrC c m l) (hl : l.length ≤ 100) (h : ∀ m2, FrM [0, 101] m m2 → TrC c m2 (l ++ toT k) → Q (some (vi (toV k n x))) m2) : MtX yX0_own cX0_own 5 (some .int) (d + 11) [vr 0 0, vi n, vi 1, vi x, vi dep] m Q := by
  refine cc_own hn hk (by omega) ?_
  have hnr := (nrA hkr.1 hkr.2).2.1
  unfold toT toV at h
  by_cases c1 : k = 3 ∨ k = 5
  · rw [if_pos c1] at hnr h
    rw [if_pos c1] at h
    refine cc_run hkr (by decide) hnr (by decide) (by omega) fun a7 => sg_X0_run_45 _ _ _ _ _ _ _ _ _ ⟨fun z => absurd z (by decide), fun _ => ⟨fun _ => ⟨by decide, ?_⟩, fun z => by omega⟩⟩
    have e : (romL 2004).getD (Int.toNat (w32 (w32 (3 * 4) + 1))) 0 = 41 := by decide +kernel
    have e2 : (romL 2003).getD (Int.toNat 3) 0 = 2 := by decide +kernel
    rw [e, e2, w32i (z := dep + 1 + 1) (by omega) (by omega)]
    refine cc_bg hT (by omega) fun m2 hF hT2 => ⟨rfl, fun z => absurd z (by decide), fun z => absurd z (by decide), fun z => absurd z (by decide), fun z => absurd z (by decide), fun _ => ⟨by decide, ?_⟩, fun _ _ _ _ z => absurd rfl z⟩
    have hk2 : m2 100 0 n = k := by rw [FrM_n hF (by decide) (by decide)]; exact hk
    refine cc_r30 hn hk2 hkr (by decide) (by decide +kernel) (by omega) hT2 (by simp; omega) fun m3 hF3 hT3 => ⟨_, rfl, trivial, _, rfl, ?_⟩
    exact h m3 (FrM_trans hF hF3) (by rw [ll_app] at hT3; exact hT3)
  · rw [if_neg c1] at hnr h
    rw [if_neg c1] at h
    by_cases c2 : k = 7
    · rw [if_pos c2] at hnr h
      rw [if_pos c2] at h
      refine cc_rU (v := 80) (A := 6) hkr (by decide) hnr (by decide) (by decide +kernel) (by decide +kernel) (by decide) (by omega) hT (by omega) fun m2 hF hT2 => ?_
      have hk2 : m2 100 0 n = k := by rw [FrM_n hF (by decide) (by decide)]; exact hk
      refine cc_r10 hn hk2 hkr (by decide) (by decide +kernel) (by omega) hT2 (by simp; omega) fun m3 hF3 hT3 => ⟨_, rfl, ?_⟩
      refine Y_met rfl 0 rfl (sg_X0_uponAbove_0 _ _ _ _ _ _ ⟨fun z => absurd z (by decide), fun z => absurd z (by decide), fun z => absurd z (by decide), fun z => absurd z (by decide), fun z => absurd z (by decide), fun z => absurd z (by decide), fun z => absurd z (by decide), fun _ => ?_, fun z => absurd z (by decide), fun _ _ _ _ _ _ _ z => absurd rfl z⟩)
      have hk3 : m3 100 0 n = k := by rw [FrM_n hF3 (by decide) (by decide)]; exact hk2
      have hg := goT_len k
      refine cc_ho hn hk3 hkr (by omega) hT3 (by simp; omega) fun m4 hF4 hT4 => ⟨_, rfl, trivial, _, rfl, trivial, _, rfl, ?_⟩
      exact h m4 (FrM_trans hF (FrM_trans hF3 hF4)) (by simpa [List.append_assoc] using hT4)
    · rw [if_neg c2] at hnr h
      rw [if_neg c2] at h
      by_cases c3 : k = 2
      · rw [if_pos c3] at hnr h
        rw [if_pos c3] at h
        exact cc_r30 hn hk hkr hkr hnr (by omega) hT (by omega) fun m3 hF3 hT3 => ⟨_, rfl, h m3 hF3 hT3⟩
      · rw [if_neg c3] at hnr h
        rw [if_neg c3] at h
        exact cc_r10 hn hk hkr hkr hnr (by omega) hT (by omega) fun m3 hF3 hT3 => ⟨_, rfl, h m3 hF3 hT3⟩
theorem cc_r2 {m : AMem} {l : List Int} {k f x dep : Int} (hn : 0 ≤ n ∧ n < 50) (hk : m 100 0 n = k) (hkr : 0 ≤ k ∧ k ≤ 7) (hf : 0 ≤ f ∧ f ≤ 7) (hK : nrF 8 f 3 = 0) (hd : 0 ≤ dep ∧ dep ≤ 8) (hT : TrC c m l) (hl : l.length ≤ 90) (h : ∀ m2, FrM [0, 101] m m2 → TrC c m2 (l ++ ([2] ++ toT k ++ hoT k)) → Q (some (vi (w32 (toV k n x - hoV k n 1)))) m2) : MtX yX0_run cX0_run 8 (some .int) (d + 12) [vr 0 0, vi n, vi f, vi 3, vi x, vi dep] m Q := by
  refine cc_run hf (by decide) hK (by decide) (by omega) fun a7 => sg_X0_run_45 _ _ _ _ _ _ _ _ _ ⟨fun z => absurd z (by decide), fun _ => ⟨fun _ => ⟨by decide, ?_⟩, fun z => by omega⟩⟩
  have e : (romL 2004).getD (Int.toNat (w32 (w32 (0 * 4) + 3))) 0 = 2 := by decide +kernel
  rw [e]
  refine cc_bg hT (by omega) fun m2 hF hT2 => ⟨rfl, fun z => absurd z (by decide), fun _ => ?_, fun z => absurd z (by decide), fun z => absurd z (by decide), fun z => absurd z (by decide), fun _ z => absurd rfl z⟩
  have hk2 : m2 100 0 n = k := by rw [FrM_n hF (by decide) (by decide)]; exact hk
  refine cc_to hn hk2 hkr hd hT2 (by simp; omega) fun m3 hF3 hT3 => ⟨_, rfl, ?_⟩
  have hk3 : m3 100 0 n = k := by rw [FrM_n hF3 (by decide) (by decide)]; exact hk2
  have hg := toT_len k
  refine cc_ho hn hk3 hkr (by omega) hT3 (by simp; omega) fun m4 hF4 hT4 => ⟨_, rfl, trivial, ?_⟩
  exact h m4 (FrM_trans hF (FrM_trans hF3 hF4)) (by simpa [List.append_assoc] using hT4)
theorem cc_te {m : AMem} {l : List Int} {k x dep : Int} (hn : 0 ≤ n ∧ n < 50) (hk : m 100 0 n = k) (hkr : 0 ≤ k ∧ k ≤ 7) (hd : 0 ≤ dep ∧ dep ≤ 5) (hT : TrC c m l) (hl : l.length ≤ 50) (h : ∀ m2, FrM [0, 101] m m2 → TrC c m2 (l ++ teT k) → Q (some (vi (teV k n x))) m2) : MtX yX0_own cX0_own 5 (some .int) (d + 14) [vr 0 0, vi n, vi 3, vi x, vi dep] m Q := by
  refine cc_own hn hk (by omega) ?_
  have hnr := (nrA hkr.1 hkr.2).2.2.2
  unfold teT teV at h
  by_cases c1 : k = 4
  · rw [if_pos c1] at hnr h
    rw [if_pos c1] at h
    refine cc_rU (v := 50) (A := 1) hkr (by decide) hnr (by decide) (by decide +kernel) (by decide +kernel) (by decide) (by omega) hT (by omega) fun m2 hF hT2 => ?_
    have hk2 : m2 100 0 n = k := by rw [FrM_n hF (by decide) (by decide)]; exact hk
    refine cc_r2 hn hk2 hkr (by decide) (by decide +kernel) (by omega) hT2 (by simp; omega) fun m3 hF3 hT3 => ⟨_, rfl, up_50 (by exact ⟨_, rfl, trivial, _, rfl, h m3 (FrM_trans hF hF3) (by simpa [List.append_assoc] using hT3)⟩)⟩
  · rw [if_neg c1] at hnr h
    rw [if_neg c1] at h
    by_cases c2 : k = 5
    · rw [if_pos c2] at hnr h
      rw [if_pos c2] at h
      refine cc_rU (v := 61) (A := 3) hkr (by decide) hnr (by decide) (by decide +kernel) (by decide +kernel) (by decide) (by omega) hT (by omega) fun m2 hF hT2 => ?_
      have hk2 : m2 100 0 n = k := by rw [FrM_n hF (by decide) (by decide)]; exact hk
      refine cc_r2 hn hk2 hkr (by decide) (by decide +kernel) (by omega) hT2 (by simp; omega) fun m3 hF3 hT3 => ⟨_, rfl, up_61 (by exact ⟨_, rfl, trivial, _, rfl, h m3 (FrM_trans hF hF3) (by simpa [List.append_assoc] using hT3)⟩)⟩
    · rw [if_neg c2] at hnr h
      rw [if_neg c2] at h
      exact cc_r2 hn hk hkr hkr hnr (by omega) hT (by omega) fun m3 hF3 hT3 => ⟨_, rfl, h m3 hF3 (by simpa [List.append_assoc] using hT3)⟩
/-! the reference -/
theorem cm_pGo {m : AMem} {l : List Int} {x : Int} (hT : TrM m l) (hl : l.length ≤ 900) (h : ∀ m2, FrM [5057, 1358] m m2 → TrM m2 (l ++ [1]) → Q (some (vi (w32 (x + n)))) m2) : MtX yX12_plainGoes cX12_plainGoes 3 (some .int) (d + 2) [vr 12 0, vi n, vi x] m Q :=
  Y_met rfl 0 rfl (sg_X12_plainGoes_0 _ _ _ _ (cm_ran hT (by omega) fun m2 hF hT2 => ⟨rfl, trivial, h m2 hF hT2⟩))
theorem cm_eGo {m : AMem} {l : List Int} {x : Int} (hT : TrM m l) (hl : l.length ≤ 800) (h : ∀ m2, FrM [5057, 1358] m m2 → TrM m2 (l ++ [70, 1]) → Q (some (vi (w32 (w32 (x + n) * 2)))) m2) : MtX yX12_emptyGoes cX12_emptyGoes 3 (some .int) (d + 3) [vr 12 0, vi n, vi x] m Q :=
  Y_met rfl 0 rfl (sg_X12_emptyGoes_0 _ _ _ _ (cm_ran hT (by omega) fun m2 hF hT2 => ⟨rfl, cm_pGo hT2 (by simp; omega) fun m3 hF3 hT3 => ⟨_, rfl, trivial, h m3 (FrM_trans hF hF3) (by rw [ll_app] at hT3; exact hT3)⟩⟩))
theorem cm_go {m : AMem} {l : List Int} {k x : Int} (hn : 0 ≤ n ∧ n < 50) (hk : m 1356 0 n = k) (hkr : 0 ≤ k ∧ k ≤ 7) (hT : TrM m l) (hl : l.length ≤ 200) (h : ∀ m2, FrM [5057, 1358] m m2 → TrM m2 (l ++ goT k) → Q (some (vi (goV k n x))) m2) : MtX yX12_going cX12_going 3 (some .int) (d + 4) [vr 12 0, vi n, vi x] m Q := by
  refine Y_met rfl 0 rfl (sg_X12_going_0 _ _ _ _ ⟨hn, ?_⟩)
  rw [hk]
  unfold goT goV at h
  refine cm_isUnder fun y hy => ⟨y, rfl, fun c0 => ⟨hn, ?_⟩, fun c0 => ?_⟩
  · rw [hk]
    have c1 : ¬ (k = 1 ∨ k = 4) := by
      unfold unK at hy
      omega
    rw [if_neg c1] at h
    rw [if_neg c1] at h
    refine ⟨fun c2 => ⟨hn, ?_⟩, fun c2 => ?_⟩
    · rw [if_neg c2] at h
      rw [if_neg c2] at h
      refine ⟨fun c3 => ?_, fun c3 => ?_⟩
      · rw [if_neg c3] at h
        rw [if_neg c3] at h
        exact cm_pGo hT (by omega) fun m2 hF hT2 => ⟨_, rfl, trivial, h m2 hF hT2⟩
      · rw [if_pos c3] at h
        rw [if_pos c3] at h
        exact cm_eGo hT (by omega) fun m2 hF hT2 => ⟨_, rfl, trivial, h m2 hF hT2⟩
    · rw [if_pos c2] at h
      rw [if_pos c2] at h
      exact cm_ran hT (by omega) fun m2 hF hT2 => ⟨rfl, cm_eGo hT2 (by simp; omega) fun m3 hF3 hT3 => ⟨_, rfl, trivial, h m3 (FrM_trans hF hF3) (by rw [ll_app] at hT3; exact hT3)⟩⟩
  · have c1 : k = 1 ∨ k = 4 := by
      unfold unK at hy
      omega
    rw [if_pos c1] at h
    rw [if_pos c1] at h
    exact cm_ran hT (by omega) fun m2 hF hT2 => ⟨rfl, cm_pGo hT2 (by simp; omega) fun m3 hF3 hT3 => ⟨_, rfl, trivial, h m3 (FrM_trans hF hF3) (by rw [ll_app] at hT3; exact hT3)⟩⟩
theorem cm_hH {m : AMem} {l : List Int} {x : Int} (hT : TrM m l) (hl : l.length ≤ 800) (h : ∀ m2, FrM [5057, 1358] m m2 → TrM m2 (l ++ [40, 11]) → Q (some (vi (w32 (xo32 x n * 3)))) m2) : MtX yX12_holdHolds cX12_holdHolds 3 (some .int) (d + 3) [vr 12 0, vi n, vi x] m Q :=
  Y_met rfl 0 rfl (sg_X12_holdHolds_0 _ _ _ _ (cm_ran hT (by omega) fun m2 hF hT2 => ⟨rfl, Y_met rfl 0 rfl (sg_X12_plainHolds_0 _ _ _ _ (cm_ran hT2 (by simp; omega) fun m3 hF3 hT3 => ⟨rfl, trivial, _, rfl, trivial, h m3 (FrM_trans hF hF3) (by rw [ll_app] at hT3; exact hT3)⟩))⟩))
theorem cm_ho {m : AMem} {l : List Int} {k x : Int} (hn : 0 ≤ n ∧ n < 50) (hk : m 1356 0 n = k) (hkr : 0 ≤ k ∧ k ≤ 7) (hT : TrM m l) (hl : l.length ≤ 150) (h : ∀ m2, FrM [5057, 1358] m m2 → TrM m2 (l ++ hoT k) → Q (some (vi (hoV k n x))) m2) : MtX yX12_holdsBy cX12_holdsBy 4 (some .int) (d + 5) [vr 12 0, vi n, vi x] m Q := by
  refine Y_met rfl 1 rfl (sg_X12_holdsBy_0 _ _ _ _ ⟨hn, ?_⟩)
  rw [hk]
  unfold hoT hoV at h
  refine ⟨fun c1 => ⟨hn, fun c2 => ?_, fun c2 => ?_⟩, fun c1 => ?_⟩
  · rw [if_neg c1, if_neg c2] at h
    rw [if_neg c1, if_neg c2] at h
    exact Y_met rfl 0 rfl (sg_X12_plainHolds_0 _ _ _ _ (cm_ran hT (by omega) fun m3 hF3 hT3 => ⟨rfl, trivial, _, rfl, trivial, h m3 hF3 hT3⟩))
  · rw [if_neg c1, if_pos c2] at h
    rw [if_neg c1, if_pos c2] at h
    exact cm_hH hT (by omega) fun m3 hF3 hT3 => ⟨_, rfl, trivial, h m3 hF3 hT3⟩
  · rw [if_pos c1] at h
    rw [if_pos c1] at h
    refine cm_ran hT (by omega) fun m2 hF hT2 => ⟨rfl, cm_hH hT2 (by simp; omega) fun m3 hF3 hT3 => ⟨_, rfl, ?_⟩⟩
    have hk3 : m3 1356 0 n = k := by rw [FrM_n hF3 (by decide) (by decide), FrM_n hF (by decide) (by decide)]; exact hk
    refine cm_go hn hk3 hkr hT3 (by simp; omega) fun m4 hF4 hT4 => ⟨_, rfl, trivial, h m4 (FrM_trans hF (FrM_trans hF3 hF4)) (by simpa [List.append_assoc] using hT4)⟩
theorem cm_pT {m : AMem} {l : List Int} {k x : Int} (hn : 0 ≤ n ∧ n < 50) (hk : m 1356 0 n = k) (hkr : 0 ≤ k ∧ k ≤ 7) (hT : TrM m l) (hl : l.length ≤ 190) (h : ∀ m2, FrM [5057, 1358] m m2 → TrM m2 (l ++ ([10] ++ goT k)) → Q (some (vi (w32 (goV k n x * 2)))) m2) : MtX yX12_plainTouches cX12_plainTouches 3 (some .int) (d + 5) [vr 12 0, vi n, vi x] m Q := by
  refine Y_met rfl 0 rfl (sg_X12_plainTouches_0 _ _ _ _ (cm_ran hT (by omega) fun m2 hF hT2 => ⟨rfl, ?_⟩))
  have hk2 : m2 1356 0 n = k := by rw [FrM_n hF (by decide) (by decide)]; exact hk
  exact cm_go hn hk2 hkr hT2 (by simp; omega) fun m4 hF4 hT4 => ⟨_, rfl, trivial, h m4 (FrM_trans hF hF4) (by rw [ll_app] at hT4; exact hT4)⟩
theorem cm_tT {m : AMem} {l : List Int} {k x : Int} (hn : 0 ≤ n ∧ n < 50) (hk : m 1356 0 n = k) (hkr : 0 ≤ k ∧ k ≤ 7) (hT : TrM m l) (hl : l.length ≤ 180) (h : ∀ m2, FrM [5057, 1358] m m2 → TrM m2 (l ++ ([30, 10] ++ goT k)) → Q (some (vi (w32 (-(w32 (goV k n x * 2)))))) m2) : MtX yX12_touchTouches cX12_touchTouches 3 (some .int) (d + 6) [vr 12 0, vi n, vi x] m Q := by
  refine Y_met rfl 0 rfl (sg_X12_touchTouches_0 _ _ _ _ (cm_ran hT (by omega) fun m2 hF hT2 => ⟨rfl, ?_⟩))
  have hk2 : m2 1356 0 n = k := by rw [FrM_n hF (by decide) (by decide)]; exact hk
  exact cm_pT hn hk2 hkr hT2 (by simp; omega) fun m4 hF4 hT4 => ⟨_, rfl, trivial, h m4 (FrM_trans hF hF4) (by rw [ll_app] at hT4; exact hT4)⟩
theorem cm_to {m : AMem} {l : List Int} {k x : Int} (hn : 0 ≤ n ∧ n < 50) (hk : m 1356 0 n = k) (hkr : 0 ≤ k ∧ k ≤ 7) (hT : TrM m l) (hl : l.length ≤ 100) (h : ∀ m2, FrM [5057, 1358] m m2 → TrM m2 (l ++ toT k) → Q (some (vi (toV k n x))) m2) : MtX yX12_touching cX12_touching 4 (some .int) (d + 7) [vr 12 0, vi n, vi x] m Q := by
  refine Y_met rfl 1 rfl (sg_X12_touching_0 _ _ _ _ ⟨hn, ?_⟩)
  rw [hk]
  unfold toT toV at h
  refine cm_isUnder fun y hy => ⟨y, rfl, fun c0 => ⟨hn, ?_⟩, fun c0 => ?_⟩
  · rw [hk]
    have c1 : ¬ (k = 3 ∨ k = 5) := by
      unfold unK at hy
      omega
    rw [if_neg c1] at h
    rw [if_neg c1] at h
    refine ⟨fun c2 => ⟨hn, ?_⟩, fun c2 => ?_⟩
    · rw [if_neg c2] at h
      rw [if_neg c2] at h
      refine ⟨fun c3 => ?_, fun c3 => ?_⟩
      · rw [if_neg c3] at h
        rw [if_neg c3] at h
        exact cm_pT hn hk hkr hT (by omega) fun m2 hF hT2 => ⟨_, rfl, trivial, h m2 hF hT2⟩
      · rw [if_pos c3] at h
        rw [if_pos c3] at h
        exact cm_tT hn hk hkr hT (by omega) fun m2 hF hT2 => ⟨_, rfl, trivial, h m2 hF hT2⟩
    · rw [if_pos c2] at h
      rw [if_pos c2] at h
      refine cm_ran hT (by omega) fun m2 hF hT2 => ⟨rfl, ?_⟩
      have hk2 : m2 1356 0 n = k := by rw [FrM_n hF (by decide) (by decide)]; exact hk
      have hg := goT_len k
      refine cm_pT hn hk2 hkr hT2 (by simp; omega) fun m3 hF3 hT3 => ⟨_, rfl, ?_⟩
      have hk3 : m3 1356 0 n = k := by rw [FrM_n hF3 (by decide) (by decide)]; exact hk2
      exact cm_ho hn hk3 hkr hT3 (by simp; omega) fun m4 hF4 hT4 => ⟨_, rfl, trivial, h m4 (FrM_trans hF (FrM_trans hF3 hF4)) (by simpa [List.append_assoc] using hT4)⟩
  · have c1 : k = 3 ∨ k = 5 := by
      unfold unK at hy
      omega
    rw [if_pos c1] at h
    rw [if_pos c1] at h
    refine cm_ran hT (by omega) fun m2 hF hT2 => ⟨rfl, ?_⟩
    have hk2 : m2 1356 0 n = k := by rw [FrM_n hF (by decide) (by decide)]; exact hk
    exact cm_tT hn hk2 hkr hT2 (by simp; omega) fun m3 hF3 hT3 => ⟨_, rfl, trivial, h m3 (FrM_trans hF hF3) (by rw [ll_app] at hT3; exact hT3)⟩
theorem cm_p2 {m : AMem} {l : List Int} {k x : Int} (hn : 0 ≤ n ∧ n < 50) (hk : m 1356 0 n = k) (hkr : 0 ≤ k ∧ k ≤ 7) (hT : TrM m l) (hl : l.length ≤ 90) (h : ∀ m2, FrM [5057, 1358] m m2 → TrM m2 (l ++ ([2] ++ toT k ++ hoT k)) → Q (some (vi (w32 (toV k n x - hoV k n 1)))) m2) : MtX yX12_plainTells cX12_plainTells 4 (some .int) (d + 8) [vr 12 0, vi n, vi x] m Q := by
  refine Y_met rfl 1 rfl (sg_X12_plainTells_0 _ _ _ _ (cm_ran hT (by omega) fun m2 hF hT2 => ⟨rfl, ?_⟩))
  have hk2 : m2 1356 0 n = k := by rw [FrM_n hF (by decide) (by decide)]; exact hk
  have hg := toT_len k
  refine cm_to hn hk2 hkr hT2 (by simp; omega) fun m3 hF3 hT3 => ⟨_, rfl, ?_⟩
  have hk3 : m3 1356 0 n = k := by rw [FrM_n hF3 (by decide) (by decide)]; exact hk2
  exact cm_ho hn hk3 hkr hT3 (by simp; omega) fun m4 hF4 hT4 => ⟨_, rfl, trivial, h m4 (FrM_trans hF (FrM_trans hF3 hF4)) (by simpa [List.append_assoc] using hT4)⟩
theorem cm_te {m : AMem} {l : List Int} {k x : Int} (hn : 0 ≤ n ∧ n < 50) (hk : m 1356 0 n = k) (hkr : 0 ≤ k ∧ k ≤ 7) (hT : TrM m l) (hl : l.length ≤ 50) (h : ∀ m2, FrM [5057, 1358] m m2 → TrM m2 (l ++ teT k) → Q (some (vi (teV k n x))) m2) : MtX yX12_telling cX12_telling 3 (some .int) (d + 9) [vr 12 0, vi n, vi x] m Q := by
  refine Y_met rfl 0 rfl (sg_X12_telling_0 _ _ _ _ ⟨hn, ?_⟩)
  rw [hk]
  unfold teT teV at h
  refine ⟨fun c1 => ⟨hn, ?_⟩, fun c1 => ?_⟩
  · rw [if_neg c1] at h
    rw [if_neg c1] at h
    refine ⟨fun c2 => ?_, fun c2 => ?_⟩
    · rw [if_neg c2] at h
      rw [if_neg c2] at h
      exact cm_p2 hn hk hkr hT (by omega) fun m2 hF hT2 => ⟨_, rfl, trivial, h m2 hF (by simpa [List.append_assoc] using hT2)⟩
    · rw [if_pos c2] at h
      rw [if_pos c2] at h
      refine cm_ran hT (by omega) fun m2 hF hT2 => ⟨rfl, ?_⟩
      have hk2 : m2 1356 0 n = k := by rw [FrM_n hF (by decide) (by decide)]; exact hk
      exact cm_p2 hn hk2 hkr hT2 (by simp; omega) fun m3 hF3 hT3 => ⟨_, rfl, trivial, h m3 (FrM_trans hF hF3) (by simpa [List.append_assoc] using hT3)⟩
  · rw [if_pos c1] at h
    rw [if_pos c1] at h
    refine cm_ran hT (by omega) fun m2 hF hT2 => ⟨rfl, ?_⟩
    have hk2 : m2 1356 0 n = k := by rw [FrM_n hF (by decide) (by decide)]; exact hk
    exact cm_p2 hn hk2 hkr hT2 (by simp; omega) fun m3 hF3 hT3 => ⟨_, rfl, trivial, h m3 (FrM_trans hF hF3) (by simpa [List.append_assoc] using hT3)⟩
end
def wAct : List Nat := [0, 101, 5057, 1358]
section
variable {d : Nat} {m : AMem} {Q : Option AV → AMem → Prop}
theorem tr_inv {m2 : AMem} {l : List Int} (hB : InvBd m) (hF : FrM wAct m m2) (h1 : TrC (m 12 0 55) m2 l) (h2 : TrM m2 l) (hl : l.length ≤ 1000) : InvBd m2 := by
  obtain ⟨⟨a1, a2, a3⟩, b, -⟩ := hB
  have e55 : m2 12 0 55 = m 12 0 55 := hF 12 0 55 (by decide)
  have e100 : ∀ i, m2 100 0 i = m 100 0 i := fun i => FrM_n hF (by decide) (by decide)
  have e56 : ∀ i, m2 1356 0 i = m 1356 0 i := fun i => FrM_n hF (by decide) (by decide)
  unfold InvBd
  simp only [e55, e100, e56, h1.2.1, h2.1, h1.1]
  refine ⟨⟨a1, a2, trivial⟩, b, ⟨by omega, by omega, trivial⟩, fun i g0 g1 g2 => ?_⟩
  have hlt : i.toNat < l.length := by omega
  have e1 := h1.2.2 i.toNat l[i.toNat] (List.getElem?_eq_getElem hlt) (by omega)
  have e2 := h2.2 i.toNat l[i.toNat] (List.getElem?_eq_getElem hlt) (by omega)
  rw [show ((i.toNat : Nat) : Int) = i by omega] at e1 e2
  rw [e1, e2]
theorem pr_act {n a x : Int} (hB : InvBd m)
    (hQ : ∀ y m1, MtX yX12_act cX12_act 4 (some .int) (d + 15) [vr 12 0, vi n, vi a, vi x] m1 (fun r m2 => r = some (vi y) ∧ InvBd m2 ∧ FrM wAct m m2) → Q (some (vi y)) m1) : MtX yX11_act cX11_act 4 (some .int) (d + 15) [vr 11 0, vi n, vi a, vi x] m Q := by
  have hB0 := hB
  obtain ⟨⟨h1, h2, h3⟩, h4, -⟩ := hB
  have hF0 : FrM [0, 101] m (upM m 0 0 3 0) := FrM_uk (FrM_refl _ _) (by decide) (by decide)
  have hT0 : TrC (m 12 0 55) (upM m 0 0 3 0) [] := ⟨by simpa [upM] using h3, by simp [upM], fun i v hv => by simp at hv⟩
  -- the reference, and what is left to show
  have ref : ∀ (m1 : AMem) (y : Int) (l : List Int), FrM [0, 101] m m1 → TrC (m 12 0 55) m1 l → l.length ≤ 100 →
      ((¬ ((0 ≤ n ∧ n < m 12 0 55) ∧ 0 ≤ a ∧ a ≤ 3) ∧ l = [] ∧ y = 0) ∨ (((0 ≤ n ∧ n < m 12 0 55) ∧ 0 ≤ a ∧ a ≤ 3) ∧ l = (if a = 0 then goT (m 1356 0 n) else if a = 1 then toT (m 1356 0 n) else if a = 2 then hoT (m 1356 0 n) else teT (m 1356 0 n)) ∧ y = (if a = 0 then goV (m 1356 0 n) n x else if a = 1 then toV (m 1356 0 n) n x else if a = 2 then hoV (m 1356 0 n) n x else teV (m 1356 0 n) n x))) → Q (some (vi y)) m1 := by
    intro m1 y l hF hT hl hcase
    have hFm : FrM wAct m m1 := FrM_mono hF (by decide)
    have e55 : (upM m1 12 0 57 0) 12 0 55 = m 12 0 55 := hF 12 0 55 (by decide)
    have hFn : FrM wAct m (upM m1 12 0 57 0) := FrM_up hFm (by decide)
    have hTm : TrM (upM m1 12 0 57 0) [] := ⟨by simp [upM], fun i v hv => by simp at hv⟩
    have hTc : ∀ m2, FrM [5057, 1358] (upM m1 12 0 57 0) m2 → TrC (m 12 0 55) m2 l := by
      intro m2 hF2
      have hF3 : FrM [5057, 1358] m1 m2 := FrM_trans (FrM_up (FrM_refl _ _) (by decide)) hF2
      refine ⟨by rw [FrM_n hF3 (by decide) (by decide)]; exact hT.1, by rw [FrM_n hF3 (by decide) (by decide)]; exact hT.2.1, fun i v hv hi => by rw [FrM_n hF3 (by decide) (by decide)]; exact hT.2.2 i v hv hi⟩
    have fin : ∀ m2, FrM [5057, 1358] (upM m1 12 0 57 0) m2 → TrM m2 l → InvBd m2 ∧ FrM wAct m m2 := fun m2 hF2 hT2 => ⟨tr_inv hB0 (FrM_trans hFn (FrM_mono hF2 (by decide))) (hTc m2 hF2) hT2 (by omega), FrM_trans hFn (FrM_mono hF2 (by decide))⟩
    refine hQ _ _ (Y_met rfl 0 rfl (sg_X12_act_0 _ _ _ _ _ (cm_isBody (by rw [e55]; exact ⟨h1, h2⟩) fun u hu => ⟨u, rfl, fun c => ⟨trivial, ?_⟩, fun c => cm_in fun v hv => ⟨v, rfl, fun c2 => ?_, fun c2 => ⟨trivial, ?_⟩⟩⟩)))
    · rw [e55] at hu
      rcases hcase with ⟨k1, k2, k3⟩ | ⟨k1, k2, k3⟩
      · obtain ⟨i1, i2⟩ := fin _ (FrM_refl _ _) (by rw [k2]; exact hTm)
        exact ⟨by rw [k3], i1, i2⟩
      · omega
    · rw [e55] at hu
      rcases hcase with ⟨k1, k2, k3⟩ | ⟨k1, k2, k3⟩
      · omega
      · have hk : (upM m1 12 0 57 0) 1356 0 n = m 1356 0 n := FrM_n hF (by decide) (by decide)
        have hkr := h4 n k1.1.1 k1.1.2
        have hn50 : 0 ≤ n ∧ n < 50 := by omega
        refine ⟨fun c3 => ⟨fun c4 => ⟨fun c5 => ?_, fun c5 => ?_⟩, fun c4 => ?_⟩, fun c3 => ?_⟩
        · rw [if_neg c3, if_neg c4, if_neg c5] at k2 k3
          refine cm_te hn50 hk ⟨hkr.2.1, hkr.2.2⟩ hTm (by simp) fun m2 hF2 hT2 => ⟨_, rfl, trivial, by rw [k3], fin m2 hF2 (by rw [k2]; simpa using hT2)⟩
        · rw [if_neg c3, if_neg c4, if_pos c5] at k2 k3
          refine cm_ho hn50 hk ⟨hkr.2.1, hkr.2.2⟩ hTm (by simp) fun m2 hF2 hT2 => ⟨_, rfl, trivial, by rw [k3], fin m2 hF2 (by rw [k2]; simpa using hT2)⟩
        · rw [if_neg c3, if_pos c4] at k2 k3
          refine cm_to hn50 hk ⟨hkr.2.1, hkr.2.2⟩ hTm (by simp) fun m2 hF2 hT2 => ⟨_, rfl, trivial, by rw [k3], fin m2 hF2 (by rw [k2]; simpa using hT2)⟩
        · rw [if_pos c3] at k2 k3
          refine cm_go hn50 hk ⟨hkr.2.1, hkr.2.2⟩ hTm (by simp) fun m2 hF2 hT2 => ⟨_, rfl, trivial, by rw [k3], fin m2 hF2 (by rw [k2]; simpa using hT2)⟩
    · rw [e55] at hu
      rcases hcase with ⟨k1, k2, k3⟩ | ⟨k1, k2, k3⟩
      · obtain ⟨i1, i2⟩ := fin _ (FrM_refl _ _) (by rw [k2]; exact hTm)
        exact ⟨by rw [k3], i1, i2⟩
      · omega
  have e2 : (upM m 0 0 3 0) 0 0 2 = m 12 0 55 := hT0.1
  refine Y_met rfl 0 rfl (sg_X11_act_0 _ _ _ _ _ (cc_knowsB fun u hu => ⟨u, rfl, fun c => ⟨trivial, ref _ _ [] hF0 hT0 (by simp) (Or.inl ⟨by rw [e2] at hu; omega, rfl, rfl⟩)⟩, fun c => ⟨fun c2 => ⟨trivial, ref _ _ [] hF0 hT0 (by simp) (Or.inl ⟨by omega, rfl, rfl⟩)⟩, fun c2 => ⟨fun c3 => ?_, fun c3 => ⟨trivial, ref _ _ [] hF0 hT0 (by simp) (Or.inl ⟨by omega, rfl, rfl⟩)⟩⟩⟩⟩))
  rw [e2] at hu
  have hn : 0 ≤ n ∧ n < m 12 0 55 := by omega
  have hkr := h4 n hn.1 hn.2
  have hk : (upM m 0 0 3 0) 100 0 n = m 1356 0 n := hkr.1
  have hn50 : 0 ≤ n ∧ n < 50 := by omega
  have e : a = 0 ∨ a = 1 ∨ a = 2 ∨ a = 3 := by omega
  have l1 := goT_len (m 1356 0 n)
  have l2 := toT_len (m 1356 0 n)
  have l3 := hoT_len (m 1356 0 n)
  have l4 := teT_len (m 1356 0 n)
  rcases e with rfl | rfl | rfl | rfl
  · exact cc_go hn50 hk ⟨hkr.2.1, hkr.2.2⟩ (by decide) hT0 (by simp) fun m2 hF2 hT2 => ⟨_, rfl, trivial, ref m2 _ _ (FrM_trans hF0 hF2) hT2 (by simp; omega) (Or.inr ⟨⟨hn, by decide⟩, by simp, by simp⟩)⟩
  · exact cc_to hn50 hk ⟨hkr.2.1, hkr.2.2⟩ (by decide) hT0 (by simp) fun m2 hF2 hT2 => ⟨_, rfl, trivial, ref m2 _ _ (FrM_trans hF0 hF2) hT2 (by simp; omega) (Or.inr ⟨⟨hn, by decide⟩, by simp, by simp⟩)⟩
  · exact cc_ho hn50 hk ⟨hkr.2.1, hkr.2.2⟩ (by decide) hT0 (by simp) fun m2 hF2 hT2 => ⟨_, rfl, trivial, ref m2 _ _ (FrM_trans hF0 hF2) hT2 (by simp; omega) (Or.inr ⟨⟨hn, by decide⟩, by simp, by simp⟩)⟩
  · exact cc_te hn50 hk ⟨hkr.2.1, hkr.2.2⟩ (by decide) hT0 (by simp) fun m2 hF2 hT2 => ⟨_, rfl, trivial, ref m2 _ _ (FrM_trans hF0 hF2) hT2 (by simp; omega) (Or.inr ⟨⟨hn, by decide⟩, by simp, by simp⟩)⟩
end
