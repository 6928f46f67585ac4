/-! bits of two -/
def mnB (s t : Int) : Int := an32 s (xo32 t (-1))
def orL (s t : Int) : Nat → Int
  | 0 => s
  | k + 1 => if tbt t k = 1 then or_32 (orL s t k) (shl32 1 k) else orL s t k
def mnL (s t : Int) : Nat → Int
  | 0 => s
  | k + 1 => if tbt t k = 1 then clb (mnL s t k) k else mnL s t k
theorem orL_s {s t : Int} {k : Nat} : orL s t (k + 1) = if tbt t k = 1 then or_32 (orL s t k) (shl32 1 k) else orL s t k := rfl
theorem mnL_s {s t : Int} {k : Nat} : mnL s t (k + 1) = if tbt t k = 1 then clb (mnL s t k) k else mnL s t k := rfl
theorem orL_id {t : Int} (h1 : 0 ≤ t) (h2 : t < 128) : orL 0 t 7 = t := b_al1 (P := fun t => orL 0 t 7 = t) (by decide +kernel) h1 h2
theorem or_as (a b c : Int) : or_32 a (or_32 b c) = or_32 (or_32 a b) c := by
  unfold or_32
  rw [i32_t, i32_t, Int32.or_assoc]
theorem an_as (a b c : Int) : an32 a (an32 b c) = an32 (an32 a b) c := by
  unfold an32
  rw [i32_t, i32_t, Int32.and_assoc]
theorem xo_or {t i : Int} (h1 : 0 ≤ t) (h2 : t < 128) (h3 : 0 ≤ i) (h4 : i < 7) : xo32 (or_32 t (shl32 1 i)) (-1) = an32 (xo32 t (-1)) (xo32 (shl32 1 i) (-1)) := b_all (P := fun t i => xo32 (or_32 t (shl32 1 i)) (-1) = an32 (xo32 t (-1)) (xo32 (shl32 1 i) (-1))) (by decide +kernel) h1 h2 h3 h4
theorem mn_0 {s : Int} (h1 : 0 ≤ s) (h2 : s < 128) : mnB s 0 = s := b_al1 (P := fun s => mnB s 0 = s) (by decide +kernel) h1 h2
theorem orL_rg {s t : Int} (h1 : 0 ≤ s) (h2 : s < 128) : ∀ {k : Nat}, k ≤ 7 → (0 ≤ orL s t k ∧ orL s t k < 128) ∧ ∀ q : Int, 0 ≤ q → q < 7 → tbt (orL s t k) q = if q < k ∧ tbt t q = 1 then 1 else tbt s q := by
  intro k
  induction k with
  | zero => intro _; exact ⟨⟨h1, h2⟩, fun q g0 g1 => by rw [if_neg (fun z => by omega)]; rfl⟩
  | succ k ih =>
    intro hk
    obtain ⟨i1, i2⟩ := ih (by omega)
    rw [orL_s]
    split
    · rename_i c
      refine ⟨or_rg i1.1 i1.2 (by omega) (by omega), fun q g0 g1 => ?_⟩
      rw [tb_or i1.1 i1.2 (by omega) (by omega) g0 g1, i2 q g0 g1]
      by_cases e : q = k
      · rw [if_pos e, if_pos ⟨by omega, by rw [e]; exact c⟩]
      · rw [if_neg e]
        by_cases e2 : q < k ∧ tbt t q = 1
        · rw [if_pos e2, if_pos ⟨by omega, e2.2⟩]
        · rw [if_neg e2, if_neg (fun z => e2 ⟨by omega, z.2⟩)]
    · rename_i c
      refine ⟨i1, fun q g0 g1 => ?_⟩
      rw [i2 q g0 g1]
      by_cases e2 : q < k ∧ tbt t q = 1
      · rw [if_pos e2, if_pos ⟨by omega, e2.2⟩]
      · rw [if_neg e2, if_neg (fun z => ?_)]
        by_cases e : q = k
        · rw [e] at z; exact c z.2
        · exact e2 ⟨by omega, z.2⟩
theorem mnL_rg {s t : Int} (h1 : 0 ≤ s) (h2 : s < 128) : ∀ {k : Nat}, k ≤ 7 → (0 ≤ mnL s t k ∧ mnL s t k < 128) ∧ ∀ q : Int, 0 ≤ q → q < 7 → tbt (mnL s t k) q = if q < k ∧ tbt t q = 1 then 0 else tbt s q := by
  intro k
  induction k with
  | zero => intro _; exact ⟨⟨h1, h2⟩, fun q g0 g1 => by rw [if_neg (fun z => by omega)]; rfl⟩
  | succ k ih =>
    intro hk
    obtain ⟨i1, i2⟩ := ih (by omega)
    rw [mnL_s]
    split
    · rename_i c
      refine ⟨cl_rg i1.1 i1.2 (by omega) (by omega), fun q g0 g1 => ?_⟩
      rw [tb_cl i1.1 i1.2 (by omega) (by omega) g0 g1, i2 q g0 g1]
      by_cases e : q = k
      · rw [if_pos e, if_pos ⟨by omega, by rw [e]; exact c⟩]
      · rw [if_neg e]
        by_cases e2 : q < k ∧ tbt t q = 1
        · rw [if_pos e2, if_pos ⟨by omega, e2.2⟩]
        · rw [if_neg e2, if_neg (fun z => e2 ⟨by omega, z.2⟩)]
    · rename_i c
      refine ⟨i1, fun q g0 g1 => ?_⟩
      rw [i2 q g0 g1]
      by_cases e2 : q < k ∧ tbt t q = 1
      · rw [if_pos e2, if_pos ⟨by omega, e2.2⟩]
      · rw [if_neg e2, if_neg (fun z => ?_)]
        by_cases e : q = k
        · rw [e] at z; exact c z.2
        · exact e2 ⟨by omega, z.2⟩
theorem or_L {s t : Int} (h1 : 0 ≤ s) (h2 : s < 128) : ∀ {k : Nat}, or_32 s (orL 0 t k) = orL s t k := by
  intro k
  induction k with
  | zero => exact or_0 h1 h2
  | succ k ih =>
    rw [orL_s, orL_s]
    split
    · rw [or_as, ih]
    · exact ih
theorem mn_L {s t : Int} (h1 : 0 ≤ s) (h2 : s < 128) : ∀ {k : Nat}, k ≤ 7 → mnB s (orL 0 t k) = mnL s t k := by
  intro k
  induction k with
  | zero => intro _; exact mn_0 h1 h2
  | succ k ih =>
    intro hk
    have hr := (orL_rg (s := 0) (t := t) (by decide) (by decide) (k := k) (by omega)).1
    rw [orL_s, mnL_s]
    split
    · rw [← ih (by omega)]
      unfold mnB clb
      rw [xo_or hr.1 hr.2 (by omega) (by omega), an_as]
    · exact ih (by omega)
theorem mn_rg {s t : Int} (h1 : 0 ≤ s) (h2 : s < 128) (h3 : 0 ≤ t) (h4 : t < 128) : 0 ≤ mnB s t ∧ mnB s t < 128 := by
  have := (mnL_rg (t := t) h1 h2 (k := 7) (by decide)).1
  rwa [← mn_L h1 h2 (by decide), orL_id h3 h4] at this
theorem or2_rg {s t : Int} (h1 : 0 ≤ s) (h2 : s < 128) (h3 : 0 ≤ t) (h4 : t < 128) : 0 ≤ or_32 s t ∧ or_32 s t < 128 := by
  have := (orL_rg (t := t) h1 h2 (k := 7) (by decide)).1
  rwa [← or_L h1 h2, orL_id h3 h4] at this
theorem tb_mn {s t k : Int} (h1 : 0 ≤ s) (h2 : s < 128) (h3 : 0 ≤ t) (h4 : t < 128) (h5 : 0 ≤ k) (h6 : k < 7) : tbt (mnB s t) k = if tbt t k = 1 then 0 else tbt s k := by
  have := (mnL_rg (t := t) h1 h2 (k := 7) (by decide)).2 k h5 h6
  rw [← mn_L h1 h2 (by decide), orL_id h3 h4] at this
  rw [this]
  by_cases c : tbt t k = 1
  · rw [if_pos ⟨by omega, c⟩, if_pos c]
  · rw [if_neg (fun z => c z.2), if_neg c]
theorem tb_or2 {s t k : Int} (h1 : 0 ≤ s) (h2 : s < 128) (h3 : 0 ≤ t) (h4 : t < 128) (h5 : 0 ≤ k) (h6 : k < 7) : tbt (or_32 s t) k = if tbt t k = 1 then 1 else tbt s k := by
  have := (orL_rg (t := t) h1 h2 (k := 7) (by decide)).2 k h5 h6
  rw [← or_L h1 h2, orL_id h3 h4] at this
  rw [this]
  by_cases c : tbt t k = 1
  · rw [if_pos ⟨by omega, c⟩, if_pos c]
  · rw [if_neg (fun z => c z.2), if_neg c]
def ebB (n : Int) : Int := w32 (shl32 1 n - 1)
theorem b_a8 {P : Int → Prop} (h : ∀ n : Fin 8, P ((n.val : Nat) : Int)) {s : Int} (h1 : 0 ≤ s) (h2 : s ≤ 7) : P s := by
  have g : P ((s.toNat : Nat) : Int) := h ⟨s.toNat, by omega⟩
  rwa [Int.toNat_of_nonneg h1] at g
theorem eb_all {n : Int} (h1 : 0 ≤ n) (h2 : n ≤ 7) : (0 ≤ ebB n ∧ ebB n < 128) ∧ ∀ k : Fin 7, tbt (ebB n) ((k.val : Nat) : Int) = if ((k.val : Nat) : Int) < n then 1 else 0 := b_a8 (P := fun n => (0 ≤ ebB n ∧ ebB n < 128) ∧ ∀ k : Fin 7, tbt (ebB n) ((k.val : Nat) : Int) = if ((k.val : Nat) : Int) < n then 1 else 0) (by decide +kernel) h1 h2
theorem tb_eb {n k : Int} (h1 : 0 ≤ n) (h2 : n ≤ 7) (h5 : 0 ≤ k) (h6 : k < 7) : tbt (ebB n) k = if k < n then 1 else 0 := b_a7 (P := fun k => tbt (ebB n) k = if k < n then 1 else 0) (eb_all h1 h2).2 h5 h6
/-- the bit of one told anew -/
def stBt (s i v : Int) : Int := or_32 (clb s i) (shl32 v i)
theorem shl_0 {i : Int} (h1 : 0 ≤ i) (h2 : i < 7) : shl32 0 i = 0 := b_a7 (P := fun i => shl32 0 i = 0) (by decide +kernel) h1 h2
theorem st_rg {s i v : Int} (h1 : 0 ≤ s) (h2 : s < 128) (h3 : 0 ≤ i) (h4 : i < 7) (hv : v = 0 ∨ v = 1) : 0 ≤ stBt s i v ∧ stBt s i v < 128 := by
  have h := cl_rg h1 h2 h3 h4
  unfold stBt
  rcases hv with rfl | rfl
  · rw [shl_0 h3 h4, or_0 h.1 h.2]; exact h
  · exact or_rg h.1 h.2 h3 h4
theorem tb_st {s i v k : Int} (h1 : 0 ≤ s) (h2 : s < 128) (h3 : 0 ≤ i) (h4 : i < 7) (hv : v = 0 ∨ v = 1) (h5 : 0 ≤ k) (h6 : k < 7) : tbt (stBt s i v) k = if k = i then v else tbt s k := by
  have h := cl_rg h1 h2 h3 h4
  unfold stBt
  rcases hv with rfl | rfl
  · rw [shl_0 h3 h4, or_0 h.1 h.2]; exact tb_cl h1 h2 h3 h4 h5 h6
  · rw [tb_or h.1 h.2 h3 h4 h5 h6, tb_cl h1 h2 h3 h4 h5 h6]
    split <;> rfl
/-- the bits below n together -/
def smBt (s : Int) : Nat → Int
  | 0 => 0
  | k + 1 => smBt s k + tbt s k
theorem smB_s {s : Int} {k : Nat} : smBt s (k + 1) = smBt s k + tbt s k := rfl
theorem smB_7 {s : Int} : smBt s 7 = popB s := by
  show 0 + tbt s (0 : Nat) + tbt s (1 : Nat) + tbt s (2 : Nat) + tbt s (3 : Nat) + tbt s (4 : Nat) + tbt s (5 : Nat) + tbt s (6 : Nat) = popB s
  unfold popB
  rw [Int.zero_add]
  rfl
theorem smB_up {s : Int} {n : Nat} (h : ∀ i : Int, n ≤ i → i < 7 → tbt s i = 0) : ∀ (r : Nat), n + r ≤ 7 → smBt s (n + r) = smBt s n := by
  intro r
  induction r with
  | zero => intro _; rfl
  | succ r ih =>
    intro hr
    rw [show n + (r + 1) = n + r + 1 by omega, smB_s, ih (by omega), h ((n + r : Nat) : Int) (by omega) (by omega)]
    omega
theorem smB_pop {s : Int} {n : Nat} (hn : n ≤ 7) (h : ∀ i : Int, n ≤ i → i < 7 → tbt s i = 0) : smBt s n = popB s := by
  rw [← smB_7, ← smB_up h (7 - n) (by omega), show n + (7 - n) = 7 by omega]
/-- the least that is not in comes in -/
def lwBt (n x : Int) : Int := or_32 x (an32 (an32 (ebB n) (xo32 x (-1))) (w32 (-(an32 (ebB n) (xo32 x (-1))))))
def mlB : Nat → Int → Int → Int → Int
  | 0, _, x, _ => x
  | r + 1, k, x, th => if th ≤ 0 then x else if tbt x k = 1 then mlB r (k + 1) x th else mlB r (k + 1) (or_32 x (shl32 1 k)) (th - 1)
theorem ml_all : ∀ n : Fin 8, ∀ x : Fin 128, mlB n.val 0 ((x.val : Nat) : Int) 0 = ((x.val : Nat) : Int) ∧ mlB n.val 0 ((x.val : Nat) : Int) 1 = lwBt ((n.val : Nat) : Int) ((x.val : Nat) : Int) ∧ mlB n.val 0 ((x.val : Nat) : Int) 2 = lwBt ((n.val : Nat) : Int) (lwBt ((n.val : Nat) : Int) ((x.val : Nat) : Int)) := by decide +kernel
theorem ml_lw {n : Nat} {x : Int} (hn : n ≤ 7) (h1 : 0 ≤ x) (h2 : x < 128) : mlB n 0 x 0 = x ∧ mlB n 0 x 1 = lwBt n x ∧ mlB n 0 x 2 = lwBt n (lwBt n x) := by
  have g := ml_all ⟨n, by omega⟩ ⟨x.toNat, by omega⟩
  have g : mlB n 0 ((x.toNat : Nat) : Int) 0 = ((x.toNat : Nat) : Int) ∧ mlB n 0 ((x.toNat : Nat) : Int) 1 = lwBt n ((x.toNat : Nat) : Int) ∧ mlB n 0 ((x.toNat : Nat) : Int) 2 = lwBt n (lwBt n ((x.toNat : Nat) : Int)) := g
  rwa [Int.toNat_of_nonneg h1] at g
theorem lw_rg0 : ∀ n : Fin 8, ∀ x : Fin 128, 0 ≤ lwBt ((n.val : Nat) : Int) ((x.val : Nat) : Int) ∧ lwBt ((n.val : Nat) : Int) ((x.val : Nat) : Int) < 128 := by decide +kernel
theorem lw_rg {n : Nat} {x : Int} (hn : n ≤ 7) (h1 : 0 ≤ x) (h2 : x < 128) : 0 ≤ lwBt n x ∧ lwBt n x < 128 := by
  have g := lw_rg0 ⟨n, by omega⟩ ⟨x.toNat, by omega⟩
  have g : 0 ≤ lwBt n ((x.toNat : Nat) : Int) ∧ lwBt n ((x.toNat : Nat) : Int) < 128 := g
  rwa [Int.toNat_of_nonneg h1] at g
