/-! bits, the law worked out: a row of operations, told once, held by both -/
theorem MtX_wf {y : MethodName} {cc : ByteArray} {mL : Nat} {ret : Option FieldType} {d : Nat} {av : List AV} {mem : AMem} {Q : Option AV → AMem → Prop} (h : wfm mem → (∀ v ∈ av, wfv v) → MtX y cc mL ret d av mem Q) : MtX y cc mL ret d av mem Q := fun ha hm => h hm ha ha hm
theorem Y_wf {cc : ByteArray} {mL d pc : Nat} {own : String} {sx : Option (List Int)} {ls : ZLs} {st : List AV} {mem : AMem} {Q : Option AV → AMem → Prop} (h : wfm mem → wfl ls → Y cc mL own d sx pc ls st mem Q) : Y cc mL own d sx pc ls st mem Q := by
  intro p l e R s m args below meth c D cA ad A Qs cells slots C H locs la hP hS hL hl hs hm
  exact h hm hl p l e R s m args below meth c D cA ad A Qs cells slots C H locs la hP hS hL hl hs hm
def fgK : ZLs → ZLs → Prop
  | [], _ => True
  | none :: a, _ :: b => fgK a b
  | none :: _, [] => False
  | some v :: a, w :: b => w = some v ∧ fgK a b
  | some _ :: _, [] => False
theorem fgK_at : ∀ {a b : ZLs}, fgK a b → ∀ (i : Nat) (v : AV), a[i]? = some (some v) → b[i]? = some (some v) := by
  intro a
  induction a with
  | nil => intro b _ i v h; simp at h
  | cons x a ih =>
    intro b hk i v h
    cases b with
    | nil => cases x <;> exact absurd hk id
    | cons y b =>
      cases x with
      | none =>
        cases i with
        | zero => simp at h
        | succ i => exact ih (b := b) hk i v h
      | some w =>
        have hk2 : y = some w ∧ fgK a b := hk
        cases i with
        | zero =>
          simp at h
          subst h
          rw [hk2.1]; rfl
        | succ i => exact ih hk2.2 i v h
theorem Y_fg {cc : ByteArray} {mL d pc : Nat} {own : String} {sx : Option (List Int)} {ls ls2 : ZLs} {st : List AV} {mem : AMem} {Q : Option AV → AMem → Prop} (hk : fgK ls ls2) (h : Y cc mL own d sx pc ls st mem Q) : Y cc mL own d sx pc ls2 st mem Q := by
  intro p l e R s m args below meth c D cA ad A Qs cells slots C H locs la hP hS hL hl hs hm
  refine h p l e R s m args below meth c D cA ad A Qs cells slots C H locs la hP hS ?_ ?_ hs hm
  · exact Lh_of hL fun i v hi => toA_mem.mpr ⟨v, fgK_at hk i v hi, rfl⟩
  · intro v hv
    obtain ⟨i, hi⟩ := List.getElem?_of_mem hv
    exact hl v (List.mem_of_getElem? (fgK_at hk i v hi))
theorem FrM_n {W : List Nat} {m m2 : AMem} (h : FrM W m m2) {k j : Nat} {i : Int} (hk : k ≠ 12) (hc : k ∉ W) : m2 k j i = m k j i := h k j i (by unfold cdc; rw [if_neg hk]; exact hc)
theorem FrM_f {W : List Nat} {m m2 : AMem} (h : FrM W m m2) {k j : Nat} (hk : k ≠ 12) (hc : k ∉ W) : m2 k j = m k j := funext fun _ => FrM_n h hk hc
theorem up_f {mem : AMem} {k j : Nat} {i v : Int} {k2 j2 : Nat} (h : k2 ≠ k) : upM mem k j i v k2 j2 = mem k2 j2 := funext fun _ => up_k h
theorem up_e {mem : AMem} {k j : Nat} {i v : Int} : upM mem k j i v k j = fun x => if x = i then v else mem k j x := funext fun _ => up_eq
theorem w32i {z : Int} (h1 : -2147483648 ≤ z) (h2 : z < 2147483648) : w32 z = z := wr_id ⟨h1, h2⟩
/-! bits -/
theorem b_all {P : Int → Int → Prop} (h : ∀ n : Fin 128, ∀ k : Fin 7, P ((n.val : Nat) : Int) ((k.val : Nat) : Int)) {s i : Int} (h1 : 0 ≤ s) (h2 : s < 128) (h3 : 0 ≤ i) (h4 : i < 7) : P s i := by
  have g : P ((s.toNat : Nat) : Int) ((i.toNat : Nat) : Int) := h ⟨s.toNat, by omega⟩ ⟨i.toNat, by omega⟩
  rwa [Int.toNat_of_nonneg h1, Int.toNat_of_nonneg h3] at g
theorem b_al1 {P : Int → Prop} (h : ∀ n : Fin 128, P ((n.val : Nat) : Int)) {s : Int} (h1 : 0 ≤ s) (h2 : s < 128) : P s := by
  have g : P ((s.toNat : Nat) : Int) := h ⟨s.toNat, by omega⟩
  rwa [Int.toNat_of_nonneg h1] at g
theorem b_a7 {P : Int → Prop} (h : ∀ n : Fin 7, P ((n.val : Nat) : Int)) {s : Int} (h1 : 0 ≤ s) (h2 : s < 7) : P s := by
  have g : P ((s.toNat : Nat) : Int) := h ⟨s.toNat, by omega⟩
  rwa [Int.toNat_of_nonneg h1] at g
theorem tb01 {s i : Int} (h1 : 0 ≤ s) (h2 : s < 128) (h3 : 0 ≤ i) (h4 : i < 7) : tbt s i = 0 ∨ tbt s i = 1 := b_all (P := fun s i => tbt s i = 0 ∨ tbt s i = 1) (by decide +kernel) h1 h2 h3 h4
theorem or_rg {s i : Int} (h1 : 0 ≤ s) (h2 : s < 128) (h3 : 0 ≤ i) (h4 : i < 7) : 0 ≤ or_32 s (shl32 1 i) ∧ or_32 s (shl32 1 i) < 128 := b_all (P := fun s i => 0 ≤ or_32 s (shl32 1 i) ∧ or_32 s (shl32 1 i) < 128) (by decide +kernel) h1 h2 h3 h4
theorem tb_or0 {s i : Int} (h1 : 0 ≤ s) (h2 : s < 128) (h3 : 0 ≤ i) (h4 : i < 7) : ∀ k : Fin 7, tbt (or_32 s (shl32 1 i)) ((k.val : Nat) : Int) = if ((k.val : Nat) : Int) = i then 1 else tbt s ((k.val : Nat) : Int) := b_all (P := fun s i => ∀ k : Fin 7, tbt (or_32 s (shl32 1 i)) ((k.val : Nat) : Int) = if ((k.val : Nat) : Int) = i then 1 else tbt s ((k.val : Nat) : Int)) (by decide +kernel) h1 h2 h3 h4
theorem tb_or {s i k : Int} (h1 : 0 ≤ s) (h2 : s < 128) (h3 : 0 ≤ i) (h4 : i < 7) (h5 : 0 ≤ k) (h6 : k < 7) : tbt (or_32 s (shl32 1 i)) k = if k = i then 1 else tbt s k := b_a7 (P := fun k => tbt (or_32 s (shl32 1 i)) k = if k = i then 1 else tbt s k) (tb_or0 h1 h2 h3 h4) h5 h6
/-- bit i away -/
def clb (s i : Int) : Int := an32 s (xo32 (shl32 1 i) (-1))
theorem cl_rg {s i : Int} (h1 : 0 ≤ s) (h2 : s < 128) (h3 : 0 ≤ i) (h4 : i < 7) : 0 ≤ clb s i ∧ clb s i < 128 := b_all (P := fun s i => 0 ≤ clb s i ∧ clb s i < 128) (by decide +kernel) h1 h2 h3 h4
theorem tb_cl0 {s i : Int} (h1 : 0 ≤ s) (h2 : s < 128) (h3 : 0 ≤ i) (h4 : i < 7) : ∀ k : Fin 7, tbt (clb s i) ((k.val : Nat) : Int) = if ((k.val : Nat) : Int) = i then 0 else tbt s ((k.val : Nat) : Int) := b_all (P := fun s i => ∀ k : Fin 7, tbt (clb s i) ((k.val : Nat) : Int) = if ((k.val : Nat) : Int) = i then 0 else tbt s ((k.val : Nat) : Int)) (by decide +kernel) h1 h2 h3 h4
theorem tb_cl {s i k : Int} (h1 : 0 ≤ s) (h2 : s < 128) (h3 : 0 ≤ i) (h4 : i < 7) (h5 : 0 ≤ k) (h6 : k < 7) : tbt (clb s i) k = if k = i then 0 else tbt s k := b_a7 (P := fun k => tbt (clb s i) k = if k = i then 0 else tbt s k) (tb_cl0 h1 h2 h3 h4) h5 h6
theorem b_sum {s : Int} (h1 : 0 ≤ s) (h2 : s < 128) : s = tbt s 0 + 2 * tbt s 1 + 4 * tbt s 2 + 8 * tbt s 3 + 16 * tbt s 4 + 32 * tbt s 5 + 64 * tbt s 6 := b_al1 (P := fun s => s = tbt s 0 + 2 * tbt s 1 + 4 * tbt s 2 + 8 * tbt s 3 + 16 * tbt s 4 + 32 * tbt s 5 + 64 * tbt s 6) (by decide +kernel) h1 h2
theorem b_ext {s t : Int} (h1 : 0 ≤ s) (h2 : s < 128) (h3 : 0 ≤ t) (h4 : t < 128) (h : ∀ k : Int, 0 ≤ k → k < 7 → tbt s k = tbt t k) : s = t := by
  have a := b_sum h1 h2
  have b := b_sum h3 h4
  have c0 := h 0 (by decide) (by decide)
  have c1 := h 1 (by decide) (by decide)
  have c2 := h 2 (by decide) (by decide)
  have c3 := h 3 (by decide) (by decide)
  have c4 := h 4 (by decide) (by decide)
  have c5 := h 5 (by decide) (by decide)
  have c6 := h 6 (by decide) (by decide)
  omega
def popB (s : Int) : Int := tbt s 0 + tbt s 1 + tbt s 2 + tbt s 3 + tbt s 4 + tbt s 5 + tbt s 6
theorem pop_rg {s : Int} (h1 : 0 ≤ s) (h2 : s < 128) : 0 ≤ popB s ∧ popB s ≤ 7 := b_al1 (P := fun s => 0 ≤ popB s ∧ popB s ≤ 7) (by decide +kernel) h1 h2
theorem b_low {s : Int} (h1 : 0 ≤ s) (h2 : s < 128) (h0 : ¬ s = 0) : 0 ≤ an32 s (w32 (s - 1)) ∧ an32 s (w32 (s - 1)) < s ∧ popB (an32 s (w32 (s - 1))) + 1 = popB s := b_al1 (P := fun s => ¬ s = 0 → 0 ≤ an32 s (w32 (s - 1)) ∧ an32 s (w32 (s - 1)) < s ∧ popB (an32 s (w32 (s - 1))) + 1 = popB s) (by decide +kernel) h1 h2 h0
def bcF (s : Int) : Int := (an32 (w32 ((w32 ((an32 (w32 ((w32 ((an32 (w32 (s - (an32 (ushr32 s 1) 1431655765))) 858993459) + (an32 (ushr32 (w32 (s - (an32 (ushr32 s 1) 1431655765))) 2) 858993459))) + (ushr32 (w32 ((an32 (w32 (s - (an32 (ushr32 s 1) 1431655765))) 858993459) + (an32 (ushr32 (w32 (s - (an32 (ushr32 s 1) 1431655765))) 2) 858993459))) 4))) 252645135) + (ushr32 (an32 (w32 ((w32 ((an32 (w32 (s - (an32 (ushr32 s 1) 1431655765))) 858993459) + (an32 (ushr32 (w32 (s - (an32 (ushr32 s 1) 1431655765))) 2) 858993459))) + (ushr32 (w32 ((an32 (w32 (s - (an32 (ushr32 s 1) 1431655765))) 858993459) + (an32 (ushr32 (w32 (s - (an32 (ushr32 s 1) 1431655765))) 2) 858993459))) 4))) 252645135) 8))) + (ushr32 (w32 ((an32 (w32 ((w32 ((an32 (w32 (s - (an32 (ushr32 s 1) 1431655765))) 858993459) + (an32 (ushr32 (w32 (s - (an32 (ushr32 s 1) 1431655765))) 2) 858993459))) + (ushr32 (w32 ((an32 (w32 (s - (an32 (ushr32 s 1) 1431655765))) 858993459) + (an32 (ushr32 (w32 (s - (an32 (ushr32 s 1) 1431655765))) 2) 858993459))) 4))) 252645135) + (ushr32 (an32 (w32 ((w32 ((an32 (w32 (s - (an32 (ushr32 s 1) 1431655765))) 858993459) + (an32 (ushr32 (w32 (s - (an32 (ushr32 s 1) 1431655765))) 2) 858993459))) + (ushr32 (w32 ((an32 (w32 (s - (an32 (ushr32 s 1) 1431655765))) 858993459) + (an32 (ushr32 (w32 (s - (an32 (ushr32 s 1) 1431655765))) 2) 858993459))) 4))) 252645135) 8))) 16))) 63)
theorem b_bc {s : Int} (h1 : 0 ≤ s) (h2 : s < 128) : (an32 (w32 ((w32 ((an32 (w32 ((w32 ((an32 (w32 (s - (an32 (ushr32 s 1) 1431655765))) 858993459) + (an32 (ushr32 (w32 (s - (an32 (ushr32 s 1) 1431655765))) 2) 858993459))) + (ushr32 (w32 ((an32 (w32 (s - (an32 (ushr32 s 1) 1431655765))) 858993459) + (an32 (ushr32 (w32 (s - (an32 (ushr32 s 1) 1431655765))) 2) 858993459))) 4))) 252645135) + (ushr32 (an32 (w32 ((w32 ((an32 (w32 (s - (an32 (ushr32 s 1) 1431655765))) 858993459) + (an32 (ushr32 (w32 (s - (an32 (ushr32 s 1) 1431655765))) 2) 858993459))) + (ushr32 (w32 ((an32 (w32 (s - (an32 (ushr32 s 1) 1431655765))) 858993459) + (an32 (ushr32 (w32 (s - (an32 (ushr32 s 1) 1431655765))) 2) 858993459))) 4))) 252645135) 8))) + (ushr32 (w32 ((an32 (w32 ((w32 ((an32 (w32 (s - (an32 (ushr32 s 1) 1431655765))) 858993459) + (an32 (ushr32 (w32 (s - (an32 (ushr32 s 1) 1431655765))) 2) 858993459))) + (ushr32 (w32 ((an32 (w32 (s - (an32 (ushr32 s 1) 1431655765))) 858993459) + (an32 (ushr32 (w32 (s - (an32 (ushr32 s 1) 1431655765))) 2) 858993459))) 4))) 252645135) + (ushr32 (an32 (w32 ((w32 ((an32 (w32 (s - (an32 (ushr32 s 1) 1431655765))) 858993459) + (an32 (ushr32 (w32 (s - (an32 (ushr32 s 1) 1431655765))) 2) 858993459))) + (ushr32 (w32 ((an32 (w32 (s - (an32 (ushr32 s 1) 1431655765))) 858993459) + (an32 (ushr32 (w32 (s - (an32 (ushr32 s 1) 1431655765))) 2) 858993459))) 4))) 252645135) 8))) 16))) 63) = popB s := b_al1 (P := fun s => bcF s = popB s) (by decide +kernel) h1 h2
theorem cc_bitCount {d : Nat} {s : Int} {m : AMem} {Q : Option AV → AMem → Prop} (h1 : 0 ≤ s) (h2 : s < 128) (h : Q (some (vi (popB s))) m) : MtX yJ6_bitCount_0f7a4 cJ6_bitCount_0f7a4 1 (some .int) (d + 1) [vi s] m Q := by
  rw [← b_bc h1 h2] at h
  exact Y_met rfl 0 rfl (sg_J6_bitCount_0f7a4_0 _ _ _ ⟨trivial, h⟩)
theorem cm_bitsOf {d : Nat} {s : Int} {m : AMem} {Q : Option AV → AMem → Prop} (h1 : 0 ≤ s) (h2 : s < 128) (h : Q (some (vi (popB s))) m) : MtX yX12_bitsOf cX12_bitsOf 3 (some .int) (d + 1) [vi s] m Q := by
  have key : ∀ (n : Nat) (a t : Int), 0 ≤ t → t ≤ n → t < 128 → 0 ≤ a → a + popB t = popB s → Y cX12_bitsOf 3 RX12 (d + 1) none 4 [some (vi s), some (vi a), some (vi t)] [] m (fun r mem2 => rk (some .int) r ∧ Q r mem2) := by
    intro n
    induction n with
    | zero =>
      intro a t g1 g2 g3 g4 g5
      have e : t = 0 := by omega
      subst e
      have e2 : popB 0 = 0 := by decide +kernel
      refine sg_X12_bitsOf_4 _ _ _ _ _ ⟨fun _ => ⟨trivial, ?_⟩, fun c => absurd rfl c⟩
      rw [show a = popB s by omega]
      exact h
    | succ n ih =>
      intro a t g1 g2 g3 g4 g5
      refine sg_X12_bitsOf_4 _ _ _ _ _ ⟨fun c => ⟨trivial, ?_⟩, fun c => ?_⟩
      · subst c
        have e2 : popB 0 = 0 := by decide +kernel
        rw [show a = popB s by omega]
        exact h
      · obtain ⟨f1, f2, f3⟩ := b_low g1 g3 c
        have f4 := pop_rg h1 h2
        have f5 := pop_rg f1 (by omega)
        rw [w32i (by omega) (by omega)]
        exact ih _ _ f1 (by omega) (by omega) (by omega) (by omega)
  exact Y_met rfl 2 rfl (sg_X12_bitsOf_0 _ _ _ (key s.toNat 0 s h1 (by omega) h2 (by omega) (by omega)))
/-! the ten that join two -/
def jnF (j a b : Int) : Int := if j = 0 then (if a ≠ 0 ∨ b ≠ 0 then 1 else 0) else if j = 1 then (if a ≠ 0 ∧ b ≠ 0 then 1 else 0) else if j = 2 then (if a < b then 1 else 0) else if j = 3 then (if a = b then 1 else 0) else if j = 4 then (if b < a then 1 else 0) else if j = 5 then w32 (a + b) else if j = 6 then w32 (a - b) else if j = 7 then w32 (a * b) else if j = 8 then (if b = 0 then 0 else w32 (Int.tdiv a b)) else (if b = 0 then 0 else Int.tmod a b)
def jcF (j : Int) : Int := if j = 0 then 124 else if j = 1 then 38 else if j = 2 then 60 else if j = 3 then 61 else if j = 4 then 62 else if j = 5 then 43 else if j = 6 then 45 else if j = 7 then 42 else if j = 8 then 47 else 37
theorem cc_joined {d : Nat} {j a b : Int} {m : AMem} {Q : Option AV → AMem → Prop} (h : Q (some (vi (jnF j a b))) m) : MtX yX3_joined cX3_joined 3 (some .int) (d + 1) [vi j, vi a, vi b] m Q := by
  have e : ∀ v, jnF j a b = v → Q (some (vi v)) m := fun v e => e ▸ h
  refine Y_met rfl 0 rfl (sg_X3_joined_0 _ _ _ _ _ ?_)
  repeat' first | (refine ⟨trivial, e _ ?_⟩) | (intro _) | (refine ⟨by assumption, ?_⟩) | (refine ⟨?_, ?_⟩) | fail
  all_goals (unfold jnF; (repeat' split) <;> omega)
