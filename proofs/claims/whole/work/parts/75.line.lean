/-! corners, chains, who is alone -/
abbrev eLn (p : StR) (i j : Int) : Prop := tbt (p 11) j = 1 ∧ abv (p (20 + j) - p (20 + i)) + abv (p (30 + j) - p (30 + i)) ≤ 1
theorem shl1_all {i : Int} (h1 : 0 ≤ i) (h2 : i < 7) : (0 ≤ shl32 1 i ∧ shl32 1 i < 128) ∧ ∀ k : Fin 7, tbt (shl32 1 i) ((k.val : Nat) : Int) = if ((k.val : Nat) : Int) = i then 1 else 0 := b_a7 (P := fun i => (0 ≤ shl32 1 i ∧ shl32 1 i < 128) ∧ ∀ k : Fin 7, tbt (shl32 1 i) ((k.val : Nat) : Int) = if ((k.val : Nat) : Int) = i then 1 else 0) (by decide +kernel) h1 h2
theorem tb_shl1 {i k : Int} (h1 : 0 ≤ i) (h2 : i < 7) (h3 : 0 ≤ k) (h4 : k < 7) : tbt (shl32 1 i) k = if k = i then 1 else 0 := b_a7 (P := fun k => tbt (shl32 1 i) k = if k = i then 1 else 0) (shl1_all h1 h2).2 h3 h4
def bsB (p : StR) (i : Int) : Nat → Int
  | 0 => 0
  | k + 1 => if eLn p i k then or_32 (bsB p i k) (shl32 1 k) else bsB p i k
theorem bsB_s {p : StR} {i : Int} {k : Nat} : bsB p i (k + 1) = if eLn p i k then or_32 (bsB p i k) (shl32 1 k) else bsB p i k := rfl
theorem bsB_all {p : StR} {i : Int} : ∀ {k : Nat}, k ≤ 7 → (0 ≤ bsB p i k ∧ bsB p i k < 128) ∧ ∀ q : Int, 0 ≤ q → q < 7 → (tbt (bsB p i k) q = 1 ↔ q < k ∧ eLn p i q) := by
  intro k
  induction k with
  | zero =>
    intro _
    refine ⟨⟨Int.le_refl 0, by show (0 : Int) < 128; decide⟩, fun q g0 g1 => ?_⟩
    have : tbt 0 q = 0 := b_a7 (P := fun q => tbt 0 q = 0) (by decide +kernel) g0 g1
    have e : tbt (bsB p i 0) q = 0 := this
    rw [e]
    exact ⟨fun z => absurd z (by decide), fun z => by omega⟩
  | succ k ih =>
    intro hk
    obtain ⟨i1, i2⟩ := ih (by omega)
    rw [bsB_s]
    by_cases c : eLn p i k
    · rw [if_pos c]
      refine ⟨or_rg i1.1 i1.2 (by omega) (by omega), fun q g0 g1 => ?_⟩
      rw [tb_or i1.1 i1.2 (by omega) (by omega) g0 g1]
      by_cases e : q = k
      · rw [if_pos e]
        exact ⟨fun _ => ⟨by omega, by rw [e]; exact c⟩, fun _ => rfl⟩
      · rw [if_neg e, i2 q g0 g1]
        exact ⟨fun z => ⟨by omega, z.2⟩, fun z => ⟨by omega, z.2⟩⟩
    · rw [if_neg c]
      refine ⟨i1, fun q g0 g1 => ?_⟩
      rw [i2 q g0 g1]
      refine ⟨fun z => ⟨by omega, z.2⟩, fun z => ⟨?_, z.2⟩⟩
      by_cases e : q = k
      · rw [e] at z; exact absurd z.2 c
      · omega
def hgI (p : StR) (n : Nat) (s : Int) : Nat → Int
  | 0 => s
  | k + 1 => if tbt (hgI p n s k) k = 1 then or_32 (hgI p n s k) (bsB p k n) else hgI p n s k
def hgR (p : StR) (n : Nat) (i : Int) : Nat → Int
  | 0 => shl32 1 i
  | r + 1 => hgI p n (hgR p n i r) n
theorem hgI_s {p : StR} {n : Nat} {s : Int} {k : Nat} : hgI p n s (k + 1) = if tbt (hgI p n s k) k = 1 then or_32 (hgI p n s k) (bsB p k n) else hgI p n s k := rfl
def cmBt (p : StR) (i : Int) : Int := hgR p (p 10).toNat i (p 10).toNat
def clL (p : StR) (n : Nat) (s : Int) : Prop := ∀ i : Int, 0 ≤ i → i < n → tbt s i = 1 → ∀ q : Int, 0 ≤ q → q < n → eLn p i q → tbt s q = 1
/-- within the chain of one -/
def imL (p : StR) (n : Nat) (i s : Int) : Prop := (0 ≤ i ∧ i < n) ∧ (0 ≤ s ∧ s < 128) ∧ tbt s i = 1 ∧ (∀ q : Int, n ≤ q → q < 7 → tbt s q = 0) ∧ ∀ T : Int, 0 ≤ T → T < 128 → tbt T i = 1 → clL p n T → ∀ q : Int, 0 ≤ q → q < 7 → tbt s q = 1 → tbt T q = 1
section
variable {p : StR} {n : Nat}
theorem imL_0 {i : Int} (h0 : 0 ≤ i) (h1 : i < n) (hn : n ≤ 7) : imL p n i (shl32 1 i) := by
  refine ⟨⟨h0, h1⟩, (shl1_all h0 (by omega)).1, ?_, fun q g0 g1 => ?_, fun T t0 t1 t2 t3 q g0 g1 g2 => ?_⟩
  · rw [tb_shl1 h0 (by omega) h0 (by omega), if_pos rfl]
  · rw [tb_shl1 h0 (by omega) (by omega) g1, if_neg (by omega)]
  · rw [tb_shl1 h0 (by omega) g0 g1] at g2
    by_cases e : q = i
    · rw [e]; exact t2
    · rw [if_neg e] at g2; exact absurd g2 (by decide)
theorem b01n {s q : Int} (h : 0 ≤ s ∧ s < 128) (h0 : 0 ≤ q) (h1 : q < 7) (hc : ¬ tbt s q = 1) : tbt s q = 0 := (tb01 h.1 h.2 h0 h1).resolve_right hc
theorem imL_or {i s : Int} {k : Nat} (hn : n ≤ 7) (hk : k < n) (h : imL p n i s) (hks : tbt s k = 1) : imL p n i (or_32 s (bsB p k n)) ∧ ∀ q : Int, 0 ≤ q → q < 7 → (tbt (or_32 s (bsB p k n)) q = 1 ↔ tbt s q = 1 ∨ (q < n ∧ eLn p k q)) := by
  obtain ⟨a0, a1, a2, a3, a4⟩ := h
  obtain ⟨b1, b2⟩ := bsB_all (p := p) (i := k) (k := n) hn
  have hall : ∀ q : Int, 0 ≤ q → q < 7 → (tbt (or_32 s (bsB p k n)) q = 1 ↔ tbt s q = 1 ∨ (q < n ∧ eLn p k q)) := by
    intro q g0 g1
    rw [tb_or2 a1.1 a1.2 b1.1 b1.2 g0 g1, ← b2 q g0 g1]
    by_cases c : tbt (bsB p k n) q = 1
    · rw [if_pos c]; exact ⟨fun _ => Or.inr c, fun _ => rfl⟩
    · rw [if_neg c]; exact ⟨Or.inl, fun z => z.resolve_right c⟩
  have hr := or2_rg a1.1 a1.2 b1.1 b1.2
  refine ⟨⟨a0, hr, ?_, fun q g0 g1 => ?_, fun T t0 t1 t2 t3 q g0 g1 g2 => ?_⟩, hall⟩
  · exact (hall i a0.1 (by omega)).2 (Or.inl a2)
  · refine b01n hr (by omega) g1 fun z => ?_
    rcases (hall q (by omega) g1).1 z with z | z
    · rw [a3 q g0 g1] at z; exact absurd z (by decide)
    · omega
  · rcases (hall q g0 g1).1 g2 with z | z
    · exact a4 T t0 t1 t2 t3 q g0 g1 z
    · exact t3 k (by omega) (by omega) (a4 T t0 t1 t2 t3 k (by omega) (by omega) hks) q g0 z.1 z.2
theorem imL_or1 {i s : Int} {k q : Int} (hn : n ≤ 7) (hk : 0 ≤ k ∧ k < n) (hq : 0 ≤ q ∧ q < n) (h : imL p n i s) (he : eLn p k q) (hks : ∀ T : Int, 0 ≤ T → T < 128 → tbt T i = 1 → clL p n T → tbt T k = 1) : imL p n i (or_32 s (shl32 1 q)) := by
  obtain ⟨a0, a1, a2, a3, a4⟩ := h
  have hr := or_rg a1.1 a1.2 (i := q) hq.1 (by omega)
  refine ⟨a0, hr, ?_, fun x g0 g1 => ?_, fun T t0 t1 t2 t3 x g0 g1 g2 => ?_⟩
  · rw [tb_or a1.1 a1.2 hq.1 (by omega) a0.1 (by omega)]
    split
    · rfl
    · exact a2
  · rw [tb_or a1.1 a1.2 hq.1 (by omega) (by omega) g1, if_neg (by omega)]
    exact a3 x g0 g1
  · rw [tb_or a1.1 a1.2 hq.1 (by omega) g0 g1] at g2
    by_cases e : x = q
    · rw [e]
      exact t3 k hk.1 hk.2 (hks T t0 t1 t2 t3) q hq.1 hq.2 he
    · rw [if_neg e] at g2
      exact a4 T t0 t1 t2 t3 x g0 g1 g2
/-- the same, as nothing more is told -/
theorem imL_un {i s t : Int} (h1 : imL p n i s) (h2 : imL p n i t) (c1 : clL p n s) (c2 : clL p n t) : s = t := by
  obtain ⟨a0, a1, a2, a3, a4⟩ := h1
  obtain ⟨b0, b1, b2, b3, b4⟩ := h2
  refine b_ext a1.1 a1.2 b1.1 b1.2 fun k g0 g1 => ?_
  rcases tb01 a1.1 a1.2 g0 g1 with z | z
  · rcases tb01 b1.1 b1.2 g0 g1 with w | w
    · rw [z, w]
    · rw [b4 s a1.1 a1.2 a2 c1 k g0 g1 w, w]
  · rw [z, a4 t b1.1 b1.2 b2 c2 k g0 g1 z]
theorem pop_up {s t : Int} (hs : 0 ≤ s ∧ s < 128) (ht : 0 ≤ t ∧ t < 128) (h : ∀ q : Int, 0 ≤ q → q < 7 → tbt s q = 1 → tbt t q = 1) (hne : ¬ t = s) : popB s + 1 ≤ popB t := by
  have le : ∀ q : Int, 0 ≤ q → q < 7 → tbt s q ≤ tbt t q := by
    intro q g0 g1
    have a := tb01 hs.1 hs.2 g0 g1
    have b := tb01 ht.1 ht.2 g0 g1
    by_cases c : tbt s q = 1
    · rw [c, h q g0 g1 c]; exact Int.le_refl _
    · omega
  have l0 := le 0 (by decide) (by decide)
  have l1 := le 1 (by decide) (by decide)
  have l2 := le 2 (by decide) (by decide)
  have l3 := le 3 (by decide) (by decide)
  have l4 := le 4 (by decide) (by decide)
  have l5 := le 5 (by decide) (by decide)
  have l6 := le 6 (by decide) (by decide)
  by_cases c : popB s + 1 ≤ popB t
  · exact c
  · exfalso
    apply hne
    unfold popB at c
    rw [b_sum ht.1 ht.2, b_sum hs.1 hs.2]
    have e0 : tbt t 0 = tbt s 0 := by omega
    have e1 : tbt t 1 = tbt s 1 := by omega
    have e2 : tbt t 2 = tbt s 2 := by omega
    have e3 : tbt t 3 = tbt s 3 := by omega
    have e4 : tbt t 4 = tbt s 4 := by omega
    have e5 : tbt t 5 = tbt s 5 := by omega
    have e6 : tbt t 6 = tbt s 6 := by omega
    rw [e0, e1, e2, e3, e4, e5, e6]
theorem hgI_all {i s : Int} (hn : n ≤ 7) (h : imL p n i s) : ∀ {k : Nat}, k ≤ n → imL p n i (hgI p n s k) ∧ (∀ q : Int, 0 ≤ q → q < 7 → tbt s q = 1 → tbt (hgI p n s k) q = 1) ∧ ∀ x : Int, 0 ≤ x → x < k → tbt s x = 1 → ∀ q : Int, 0 ≤ q → q < n → eLn p x q → tbt (hgI p n s k) q = 1 := by
  intro k
  induction k with
  | zero => intro _; exact ⟨h, fun _ _ _ z => z, fun x g0 g1 => by omega⟩
  | succ k ih =>
    intro hk
    obtain ⟨i1, i2, i3⟩ := ih (by omega)
    rw [hgI_s]
    split
    · rename_i c
      obtain ⟨j1, j2⟩ := imL_or hn (by omega) i1 c
      refine ⟨j1, fun q g0 g1 z => (j2 q g0 g1).2 (Or.inl (i2 q g0 g1 z)), fun x g0 g1 z q h0 h1 he => ?_⟩
      rw [j2 q h0 (by omega)]
      by_cases e : x = k
      · right; rw [← e]; exact ⟨h1, he⟩
      · left; exact i3 x g0 (by omega) z q h0 h1 he
    · rename_i c
      refine ⟨i1, i2, fun x g0 g1 z q h0 h1 he => ?_⟩
      by_cases e : x = k
      · rw [e] at z
        exact absurd (i2 k (by omega) (by omega) z) c
      · exact i3 x g0 (by omega) z q h0 h1 he
theorem hgR_all {i : Int} (hn : n ≤ 7) (h0 : 0 ≤ i) (h1 : i < n) : ∀ r : Nat, imL p n i (hgR p n i r) ∧ (clL p n (hgR p n i r) ∨ (r : Int) + 1 ≤ popB (hgR p n i r)) := by
  intro r
  induction r with
  | zero =>
    have hm := imL_0 (p := p) h0 h1 hn
    refine ⟨hm, Or.inr ?_⟩
    show ((0 : Nat) : Int) + 1 ≤ popB (shl32 1 i)
    have := b_a7 (P := fun i => popB (shl32 1 i) = 1) (by decide +kernel) h0 (by omega : i < 7)
    omega
  | succ r ih =>
    obtain ⟨i1, i2⟩ := ih
    obtain ⟨j1, j2, j3⟩ := hgI_all hn i1 (k := n) (Nat.le_refl _)
    refine ⟨j1, ?_⟩
    show clL p n (hgI p n (hgR p n i r) n) ∨ _
    by_cases e : hgI p n (hgR p n i r) n = hgR p n i r
    · left
      intro x x0 x1 hx q q0 q1 he
      rw [e] at hx
      exact j3 x x0 x1 hx q q0 q1 he
    · rcases i2 with c | c
      · exfalso
        apply e
        obtain ⟨a0, a1, a2, a3, a4⟩ := i1
        obtain ⟨b0, b1, b2, b3, b4⟩ := j1
        refine b_ext b1.1 b1.2 a1.1 a1.2 fun k g0 g1 => ?_
        rcases tb01 b1.1 b1.2 g0 g1 with z | z
        · rcases tb01 a1.1 a1.2 g0 g1 with w | w
          · rw [z, w]
          · rw [j2 k g0 g1 w, w]
        · rw [z, b4 _ a1.1 a1.2 a2 c k g0 g1 z]
      · right
        have := pop_up i1.2.1 j1.2.1 j2 e
        show ((r + 1 : Nat) : Int) + 1 ≤ popB (hgI p n (hgR p n i r) n)
        omega
theorem cmB_all {i : Int} (hp : OkPa p) (h0 : 0 ≤ i) (h1 : i < p 10) : imL p (p 10).toNat i (cmBt p i) ∧ clL p (p 10).toNat (cmBt p i) := by
  obtain ⟨hN1, hN2⟩ := N_le hp
  obtain ⟨a, b⟩ := hgR_all (p := p) (i := i) hN1 h0 (by omega) (p 10).toNat
  refine ⟨a, ?_⟩
  rcases b with b | b
  · exact b
  · exfalso
    have := smB_pop (s := hgR p (p 10).toNat i (p 10).toNat) hN1 a.2.2.2.1
    have hle : ∀ k : Nat, k ≤ 7 → smBt (hgR p (p 10).toNat i (p 10).toNat) k ≤ k := by
      intro k
      induction k with
      | zero => intro _; exact Int.le_refl 0
      | succ k ih =>
        intro hk
        have h2 := ih (by omega)
        have := tb01 a.2.1.1 a.2.1.2 (i := k) (by omega) (by omega)
        rw [smB_s]
        omega
    have := hle (p 10).toNat hN1
    omega
end
/-- alone: the chain of one is itself -/
theorem aloneIf {p : StR} {i : Int} (hp : OkPa p) (h0 : 0 ≤ i) (h1 : i < p 10) (hin : tbt (p 11) i = 1) : bsB p i (p 10).toNat = shl32 1 i ↔ popB (cmBt p i) = 1 := by
  obtain ⟨hN1, hN2⟩ := N_le hp
  obtain ⟨⟨a0, a1, a2, a3, a4⟩, a5⟩ := cmB_all hp h0 h1
  obtain ⟨b1, b2⟩ := bsB_all (p := p) (i := i) (k := (p 10).toNat) hN1
  obtain ⟨s1, -⟩ := shl1_all h0 (by omega : i < 7)
  have hself : eLn p i i := ⟨hin, by rw [Int.sub_self, Int.sub_self]; decide⟩
  have p1 := b_a7 (P := fun i => popB (shl32 1 i) = 1) (by decide +kernel) h0 (by omega : i < 7)
  have sub : ∀ q : Int, 0 ≤ q → q < 7 → tbt (shl32 1 i) q = 1 → tbt (cmBt p i) q = 1 := by
    intro q g0 g1 z
    rw [tb_shl1 h0 (by omega) g0 g1] at z
    by_cases e : q = i
    · rw [e]; exact a2
    · rw [if_neg e] at z; exact absurd z (by decide)
  constructor
  · intro hb
    have hcl : clL p (p 10).toNat (shl32 1 i) := by
      intro x x0 x1 hx q q0 q1 he
      rw [tb_shl1 h0 (by omega) x0 (by omega)] at hx
      have e : x = i := by
        by_cases e : x = i
        · exact e
        · rw [if_neg e] at hx; exact absurd hx (by decide)
      rw [e] at he
      rw [← hb]
      exact (b2 q q0 (by omega)).2 ⟨q1, he⟩
    have e : cmBt p i = shl32 1 i := b_ext a1.1 a1.2 s1.1 s1.2 fun k g0 g1 => by
      rcases tb01 a1.1 a1.2 g0 g1 with z | z
      · rcases tb01 s1.1 s1.2 g0 g1 with w | w
        · rw [z, w]
        · rw [sub k g0 g1 w] at z; exact absurd z (by decide)
      · rw [z, a4 (shl32 1 i) s1.1 s1.2 (by rw [tb_shl1 h0 (by omega) h0 (by omega), if_pos rfl]) hcl k g0 g1 z]
    rw [e]
    exact p1
  · intro hb
    have e : cmBt p i = shl32 1 i := by
      by_cases e : cmBt p i = shl32 1 i
      · exact e
      · have := pop_up s1 a1 sub e
        omega
    refine b_ext b1.1 b1.2 s1.1 s1.2 fun k g0 g1 => ?_
    rw [tb_shl1 h0 (by omega) g0 g1]
    by_cases e2 : k = i
    · rw [if_pos e2, (b2 k g0 g1).2 ⟨by omega, by rw [e2]; exact hself⟩]
    · rw [if_neg e2]
      refine b01n b1 g0 g1 fun z => ?_
      have z2 := (b2 k g0 g1).1 z
      have := a5 i h0 (by omega) a2 k g0 z2.1 z2.2
      rw [e, tb_shl1 h0 (by omega) g0 g1, if_neg e2] at this
      exact absurd this (by decide)
/-- the bits told by line(0), line(1); the longest chain -/
def lnBt (p : StR) (w : Int) : Nat → Int
  | 0 => 0
  | k + 1 => if tbt (p 11) k = 1 ∧ (if w = 0 then p (20 + k) = 0 ∨ p (20 + k) = 8 else popB (cmBt p k) = 1) then or_32 (lnBt p w k) (shl32 1 k) else lnBt p w k
def lnC (p : StR) : Nat → Int
  | 0 => 0
  | k + 1 => if tbt (p 11) k = 1 then max (lnC p k) (popB (cmBt p k)) else lnC p k
theorem lnB_s {p : StR} {w : Int} {k : Nat} : lnBt p w (k + 1) = if tbt (p 11) k = 1 ∧ (if w = 0 then p (20 + k) = 0 ∨ p (20 + k) = 8 else popB (cmBt p k) = 1) then or_32 (lnBt p w k) (shl32 1 k) else lnBt p w k := rfl
theorem lnC_s {p : StR} {k : Nat} : lnC p (k + 1) = if tbt (p 11) k = 1 then max (lnC p k) (popB (cmBt p k)) else lnC p k := rfl
section
variable {d : Nat} {p : StR} {m : AMem} {Q : Option AV → AMem → Prop}
/-- the half as line() finds it -/
def linC (m : AMem) (p : StR) : Prop := m 2 0 5 = p 10 ∧ m 2 0 4 = p 11 ∧ (∀ i : Int, 0 ≤ i → i < p 10 → m 300 0 i = p (20 + i) ∧ m 301 0 i = p (30 + i)) ∧ (∀ i : Int, 0 ≤ i → i < p 10 → (0 ≤ p (20 + i) ∧ p (20 + i) ≤ 8) ∧ 0 ≤ p (30 + i) ∧ p (30 + i) ≤ 8)
def linM (m : AMem) (p : StR) : Prop := m 12 0 1 = p 10 ∧ (∀ i : Int, 0 ≤ i → i < p 10 → m 1302 0 i = p (20 + i) ∧ m 1303 0 i = p (30 + i) ∧ m 1305 0 i = tbt (p 11) i) ∧ (∀ i : Int, 0 ≤ i → i < p 10 → (0 ≤ p (20 + i) ∧ p (20 + i) ≤ 8) ∧ 0 ≤ p (30 + i) ∧ p (30 + i) ≤ 8)
theorem cc_isIn3 {i : Int} (hC : linC m p) (h : ∀ x : Int, (x = 1 ∧ (0 ≤ i ∧ i < p 10) ∧ tbt (p 11) i = 1 ∨ x = 0 ∧ ¬ ((0 ≤ i ∧ i < p 10) ∧ tbt (p 11) i = 1)) → Q (some (vi x)) m) : MtX yX2_isInside cX2_isInside 2 (some .boolean) (d + 2) [vr 2 0, vi i] m Q :=
  cc_isIn2 (by rw [hC.1, hC.2.1]; exact h)
theorem cc_besides {i : Int} (hp : OkPa p) (hC : linC m p) (h0 : 0 ≤ i) (h1 : i < p 10) (h : Q (some (vi (bsB p i (p 10).toNat))) m) : MtX yX2_besides cX2_besides 5 (some .int) (d + 3) [vr 2 0, vi i] m Q := by
  obtain ⟨hN1, hN2⟩ := N_le hp
  have key : ∀ (r k : Nat), k + r = (p 10).toNat → Y cX2_besides 5 RX2 (d + 3) none 4 [some (vr 2 0), some (vi i), some (vi (bsB p i k)), some (vi k), none] [] m (fun r mem2 => rk (some .int) r ∧ Q r mem2) := by
    intro r
    induction r with
    | zero =>
      intro k hk
      have e : k = (p 10).toNat := by omega
      exact sg_X2_besides_4 _ _ _ _ _ ⟨fun _ => ⟨trivial, by rw [e]; exact h⟩, fun c => by rw [hC.1] at c; omega⟩
    | succ r ih =>
      intro k hk
      have r1 := hC.2.2.1 i h0 h1
      have r2 := hC.2.2.1 k (by omega) (by omega)
      have r3 := hC.2.2.2 i h0 h1
      have r4 := hC.2.2.2 k (by omega) (by omega)
      have nx := ih (k + 1) (by omega)
      refine sg_X2_besides_4 _ _ _ _ _ ⟨fun c => by rw [hC.1] at c; omega, fun _ => ⟨by omega, by omega, by omega, by omega, ?_⟩⟩
      rw [r1.1, r1.2, r2.1, r2.2, ab_w (by omega) (by omega), ab_w (by omega) (by omega)]
      have v1 := abv_rg (x := p (20 + k) - p (20 + i)) (by omega) (by omega)
      have v2 := abv_rg (x := p (30 + k) - p (30 + i)) (by omega) (by omega)
      rw [w32i (z := abv (p (20 + k) - p (20 + i)) + abv (p (30 + k) - p (30 + i))) (by omega) (by omega), w32n (by omega)]
      refine cc_isIn3 hC fun x hx => ⟨x, rfl, fun c2 => ?_, fun c2 => ⟨fun c3 => ?_, fun c3 => ?_⟩⟩
      · rw [bsB_s, if_neg (fun z => by rcases hx with hx | hx; omega; exact hx.2 ⟨by omega, z.1⟩)] at nx
        exact Y_fg (by exact ⟨rfl, rfl, rfl, rfl, trivial⟩) nx
      · rw [bsB_s, if_neg (fun z => by have := z.2; omega)] at nx
        exact Y_fg (by exact ⟨rfl, rfl, rfl, rfl, trivial⟩) nx
      · have ht : tbt (p 11) k = 1 := by
          rcases hx with hx | hx
          · exact hx.2.2
          · omega
        rw [bsB_s, if_pos ⟨ht, by omega⟩] at nx
        exact Y_fg (by exact ⟨rfl, rfl, rfl, rfl, trivial⟩) nx
  exact Y_met rfl 3 rfl (sg_X2_besides_0 _ _ _ (key (p 10).toNat 0 (by omega)))
theorem cc_hang {i : Int} (hp : OkPa p) (hC : linC m p) (h0 : 0 ≤ i) (h1 : i < p 10) (h : Q (some (vi (cmBt p i))) m) : MtX yX2_hangingTogether cX2_hangingTogether 5 (some .int) (d + 4) [vr 2 0, vi i] m Q := by
  obtain ⟨hN1, hN2⟩ := N_le hp
  have key : ∀ (r k : Nat), k + r = (p 10).toNat → Y cX2_hangingTogether 5 RX2 (d + 4) none 6 [some (vr 2 0), some (vi i), some (vi (hgR p (p 10).toNat i k)), some (vi k), none] [] m (fun r mem2 => rk (some .int) r ∧ Q r mem2) := by
    intro r
    induction r with
    | zero =>
      intro k hk
      have e : k = (p 10).toNat := by omega
      exact sg_X2_hangingTogether_6 _ _ _ _ _ ⟨fun _ => ⟨trivial, by rw [e]; exact h⟩, fun c => by rw [hC.1] at c; omega⟩
    | succ r ih =>
      intro k hk
      refine sg_X2_hangingTogether_6 _ _ _ _ _ ⟨fun c => by rw [hC.1] at c; omega, fun _ => ?_⟩
      have inner : ∀ (r2 k2 : Nat), k2 + r2 = (p 10).toNat → Y cX2_hangingTogether 5 RX2 (d + 4) none 17 [some (vr 2 0), some (vi i), some (vi (hgI p (p 10).toNat (hgR p (p 10).toNat i k) k2)), some (vi k), some (vi k2)] [] m (fun r mem2 => rk (some .int) r ∧ Q r mem2) := by
        intro r2
        induction r2 with
        | zero =>
          intro k2 hk2
          have e : k2 = (p 10).toNat := by omega
          refine sg_X2_hangingTogether_17 _ _ _ _ _ _ ⟨fun _ => ?_, fun c => by rw [hC.1] at c; omega⟩
          rw [w32n (by omega), e]
          exact Y_fg (by exact ⟨rfl, rfl, rfl, rfl, trivial⟩) (ih (k + 1) (by omega))
        | succ r2 ih2 =>
          intro k2 hk2
          have nx := ih2 (k2 + 1) (by omega)
          refine sg_X2_hangingTogether_17 _ _ _ _ _ _ ⟨fun c => by rw [hC.1] at c; omega, fun _ => ?_⟩
          rw [w32n (by omega)]
          refine ⟨fun c2 => ?_, fun c2 => cc_besides hp hC (by omega) (by omega) ⟨_, rfl, ?_⟩⟩
          · have c2 : ¬ tbt (hgI p (p 10).toNat (hgR p (p 10).toNat i k) k2) k2 = 1 := c2
            rw [hgI_s, if_neg c2] at nx
            exact nx
          · have c2 : tbt (hgI p (p 10).toNat (hgR p (p 10).toNat i k) k2) k2 = 1 := c2
            rw [hgI_s, if_pos c2] at nx
            exact nx
      exact inner (p 10).toNat 0 (by omega)
  exact Y_met rfl 3 rfl (sg_X2_hangingTogether_0 _ _ _ (key (p 10).toNat 0 (by omega)))
theorem cc_corners (hp : OkPa p) (hC : linC m p) (h : Q (some (vi (lnBt p 0 (p 10).toNat))) m) : MtX yX2_corners cX2_corners 3 (some .int) (d + 3) [vr 2 0] m Q := by
  obtain ⟨hN1, hN2⟩ := N_le hp
  have key : ∀ (r k : Nat), k + r = (p 10).toNat → Y cX2_corners 3 RX2 (d + 3) none 4 [some (vr 2 0), some (vi (lnBt p 0 k)), some (vi k)] [] m (fun r mem2 => rk (some .int) r ∧ Q r mem2) := by
    intro r
    induction r with
    | zero =>
      intro k hk
      have e : k = (p 10).toNat := by omega
      exact sg_X2_corners_4 _ _ _ _ ⟨fun _ => ⟨trivial, by rw [e]; exact h⟩, fun c => by rw [hC.1] at c; omega⟩
    | succ r ih =>
      intro k hk
      have r2 := hC.2.2.1 k (by omega) (by omega)
      have nx := ih (k + 1) (by omega)
      rw [lnB_s] at nx
      refine sg_X2_corners_4 _ _ _ _ ⟨fun c => by rw [hC.1] at c; omega, fun _ => ?_⟩
      rw [w32n (by omega)]
      refine cc_isIn3 hC fun x hx => ⟨x, rfl, fun c2 => ?_, fun c2 => ⟨by omega, ?_⟩⟩
      · rw [if_neg (fun z => by rcases hx with hx | hx; omega; exact hx.2 ⟨by omega, z.1⟩)] at nx
        exact nx
      · have ht : tbt (p 11) k = 1 := by
          rcases hx with hx | hx
          · exact hx.2.2
          · omega
        rw [r2.1]
        refine ⟨fun c3 => ?_, fun c3 => ⟨by omega, fun c4 => ?_, fun c4 => ?_⟩⟩
        · rw [if_pos ⟨ht, by rw [if_pos rfl]; exact Or.inl c3⟩] at nx; exact nx
        · rw [if_neg (fun z => by have z2 := z.2; rw [if_pos rfl] at z2; exact z2.elim c3 c4)] at nx; exact nx
        · rw [if_pos ⟨ht, by rw [if_pos rfl]; exact Or.inr c4⟩] at nx; exact nx
  exact Y_met rfl 2 rfl (sg_X2_corners_0 _ _ (key (p 10).toNat 0 (by omega)))
theorem cc_alone (hp : OkPa p) (hC : linC m p) (h : Q (some (vi (lnBt p 1 (p 10).toNat))) m) : MtX yX2_alone cX2_alone 3 (some .int) (d + 4) [vr 2 0] m Q := by
  obtain ⟨hN1, hN2⟩ := N_le hp
  have key : ∀ (r k : Nat), k + r = (p 10).toNat → Y cX2_alone 3 RX2 (d + 4) none 4 [some (vr 2 0), some (vi (lnBt p 1 k)), some (vi k)] [] m (fun r mem2 => rk (some .int) r ∧ Q r mem2) := by
    intro r
    induction r with
    | zero =>
      intro k hk
      have e : k = (p 10).toNat := by omega
      exact sg_X2_alone_4 _ _ _ _ ⟨fun _ => ⟨trivial, by rw [e]; exact h⟩, fun c => by rw [hC.1] at c; omega⟩
    | succ r ih =>
      intro k hk
      have nx := ih (k + 1) (by omega)
      rw [lnB_s] at nx
      refine sg_X2_alone_4 _ _ _ _ ⟨fun c => by rw [hC.1] at c; omega, fun _ => ?_⟩
      rw [w32n (by omega)]
      refine cc_isIn3 hC fun x hx => ⟨x, rfl, fun c2 => ?_, fun c2 => cc_besides hp hC (by omega) (by omega) ⟨_, rfl, fun c3 => ?_, fun c3 => ?_⟩⟩
      · rw [if_neg (fun z => by rcases hx with hx | hx; omega; exact hx.2 ⟨by omega, z.1⟩)] at nx
        exact nx
      · have ht : tbt (p 11) k = 1 := by
          rcases hx with hx | hx
          · exact hx.2.2
          · omega
        rw [if_neg (fun z => by have z2 := z.2; rw [if_neg (by decide)] at z2; exact c3 ((aloneIf hp (by omega) (by omega) ht).2 z2))] at nx
        exact nx
      · have ht : tbt (p 11) k = 1 := by
          rcases hx with hx | hx
          · exact hx.2.2
          · omega
        rw [if_pos ⟨ht, by rw [if_neg (by decide)]; exact (aloneIf hp (by omega) (by omega) ht).1 c3⟩] at nx
        exact nx
  exact Y_met rfl 2 rfl (sg_X2_alone_0 _ _ (key (p 10).toNat 0 (by omega)))
theorem cc_chain (hp : OkPa p) (hC : linC m p) (h : Q (some (vi (lnC p (p 10).toNat))) m) : MtX yX2_chain cX2_chain 3 (some .int) (d + 5) [vr 2 0] m Q := by
  obtain ⟨hN1, hN2⟩ := N_le hp
  have key : ∀ (r k : Nat), k + r = (p 10).toNat → Y cX2_chain 3 RX2 (d + 5) none 4 [some (vr 2 0), some (vi (lnC p k)), some (vi k)] [] m (fun r mem2 => rk (some .int) r ∧ Q r mem2) := by
    intro r
    induction r with
    | zero =>
      intro k hk
      have e : k = (p 10).toNat := by omega
      exact sg_X2_chain_4 _ _ _ _ ⟨fun _ => ⟨trivial, by rw [e]; exact h⟩, fun c => by rw [hC.1] at c; omega⟩
    | succ r ih =>
      intro k hk
      have nx := ih (k + 1) (by omega)
      rw [lnC_s] at nx
      refine sg_X2_chain_4 _ _ _ _ ⟨fun c => by rw [hC.1] at c; omega, fun _ => ?_⟩
      rw [w32n (by omega)]
      refine cc_isIn3 hC fun x hx => ⟨x, rfl, fun c2 => ?_, fun c2 => cc_hang hp hC (by omega) (by omega) ⟨_, rfl, ?_⟩⟩
      · rw [if_neg (fun z => by rcases hx with hx | hx; omega; exact hx.2 ⟨by omega, z⟩)] at nx
        exact nx
      · have ht : tbt (p 11) k = 1 := by
          rcases hx with hx | hx
          · exact hx.2.2
          · omega
        rw [if_pos ht] at nx
        have hcm := (cmB_all (i := k) hp (by omega) (by omega)).1.2.1
        exact cc_bitCount hcm.1 hcm.2 ⟨_, rfl, nx⟩
  exact Y_met rfl 2 rfl (sg_X2_chain_0 _ _ (key (p 10).toNat 0 (by omega)))
/-! the reference -/
theorem cm_areNear {a b : Int} (hC : linM m p) (ha : 0 ≤ a ∧ a < p 10) (hb : 0 ≤ b ∧ b < p 10) (h7 : p 10 ≤ 7) (h : ∀ x : Int, (x = 1 ∧ abv (p (20 + b) - p (20 + a)) + abv (p (30 + b) - p (30 + a)) ≤ 1 ∨ x = 0 ∧ ¬ (abv (p (20 + b) - p (20 + a)) + abv (p (30 + b) - p (30 + a)) ≤ 1)) → Q (some (vi x)) m) : MtX yX12_areNear cX12_areNear 3 (some .boolean) (d + 2) [vr 12 0, vi a, vi b] m Q := by
  have r1 := hC.2.1 a ha.1 ha.2
  have r2 := hC.2.1 b hb.1 hb.2
  have r3 := hC.2.2 a ha.1 ha.2
  have r4 := hC.2.2 b hb.1 hb.2
  refine Y_met rfl 0 rfl (sg_X12_areNear_0 _ _ _ _ ⟨by omega, by omega, ?_⟩)
  rw [r1.1, r2.1]
  refine cm_apar (by omega) (by omega) ⟨_, rfl, by omega, by omega, ?_⟩
  rw [r1.2.1, r2.2.1]
  refine cm_apar (by omega) (by omega) ⟨_, rfl, ?_⟩
  rw [abv_sw (p (20 + a)), abv_sw (p (30 + a))]
  have v1 := abv_rg (x := p (20 + b) - p (20 + a)) (by omega) (by omega)
  have v2 := abv_rg (x := p (30 + b) - p (30 + a)) (by omega) (by omega)
  rw [w32i (z := abv (p (20 + b) - p (20 + a)) + abv (p (30 + b) - p (30 + a))) (by omega) (by omega)]
  exact ⟨fun c => ⟨Or.inl rfl, h 0 (by omega)⟩, fun c => ⟨Or.inr rfl, h 1 (by omega)⟩⟩
theorem cm_nearTo {i t : Int} (hp : OkPa p) (hC : linM m p) (ht : imL p (p 10).toNat i t) (h : ∀ u, imL p (p 10).toNat i u → (∀ q : Int, 0 ≤ q → q < 7 → tbt t q = 1 → tbt u q = 1) → (u = t → clL p (p 10).toNat t) → Q (some (vi u)) m) : MtX yX12_nearTo cX12_nearTo 5 (some .int) (d + 3) [vr 12 0, vi t] m Q := by
  obtain ⟨hN1, hN2⟩ := N_le hp
  have outer : ∀ (r a : Nat) (u : Int), a + r = (p 10).toNat → imL p (p 10).toNat i u → (∀ q : Int, 0 ≤ q → q < 7 → tbt t q = 1 → tbt u q = 1) → (∀ x : Int, 0 ≤ x → x < a → tbt t x = 1 → ∀ q : Int, 0 ≤ q → q < (p 10).toNat → eLn p x q → tbt u q = 1) → Y cX12_nearTo 5 RX12 (d + 3) none 4 [some (vr 12 0), some (vi t), some (vi u), some (vi a), none] [] m (fun r mem2 => rk (some .int) r ∧ Q r mem2) := by
    intro r
    induction r with
    | zero =>
      intro a u hr hu hsub hcl
      refine sg_X12_nearTo_4 _ _ _ _ _ ⟨fun _ => ⟨trivial, h u hu hsub fun e x x0 x1 hx q q0 q1 he => ?_⟩, fun c => by rw [hC.1] at c; omega⟩
      rw [← e]
      exact hcl x x0 (by omega) hx q q0 q1 he
    | succ r ih =>
      intro a u hr hu hsub hcl
      refine sg_X12_nearTo_4 _ _ _ _ _ ⟨fun c => by rw [hC.1] at c; omega, fun _ => ?_⟩
      have inner : ∀ (r2 b : Nat) (v : Int), b + r2 = (p 10).toNat → imL p (p 10).toNat i v → (∀ q : Int, 0 ≤ q → q < 7 → tbt u q = 1 → tbt v q = 1) → (tbt t a = 1 → ∀ q : Int, 0 ≤ q → q < b → eLn p a q → tbt v q = 1) → Y cX12_nearTo 5 RX12 (d + 3) none 15 [some (vr 12 0), some (vi t), some (vi v), some (vi a), some (vi b)] [] m (fun r mem2 => rk (some .int) r ∧ Q r mem2) := by
        intro r2
        induction r2 with
        | zero =>
          intro b v hr2 hv hsub2 hnow
          refine sg_X12_nearTo_15 _ _ _ _ _ _ ⟨fun _ => ?_, fun c => by rw [hC.1] at c; omega⟩
          rw [w32n (by omega)]
          refine Y_fg (by exact ⟨rfl, rfl, rfl, rfl, trivial⟩) (ih (a + 1) v (by omega) hv (fun q g0 g1 z => hsub2 q g0 g1 (hsub q g0 g1 z)) fun x x0 x1 hx q q0 q1 he => ?_)
          by_cases e : x = a
          · rw [e] at hx he
            exact hnow hx q q0 (by omega) he
          · exact hsub2 q q0 (by omega) (hcl x x0 (by omega) hx q q0 q1 he)
        | succ r2 ih2 =>
          intro b v hr2 hv hsub2 hnow
          have r5 := (hC.2.1 b (by omega) (by omega)).2.2
          refine sg_X12_nearTo_15 _ _ _ _ _ _ ⟨fun c => by rw [hC.1] at c; omega, fun _ => ?_⟩
          rw [w32n (by omega), r5]
          have keep : ¬ (tbt t a = 1 ∧ eLn p a b) → Y cX12_nearTo 5 RX12 (d + 3) none 15 [some (vr 12 0), some (vi t), some (vi v), some (vi a), some (vi ((b + 1 : Nat) : Int))] [] m (fun r mem2 => rk (some .int) r ∧ Q r mem2) := fun hc => ih2 (b + 1) v (by omega) hv hsub2 fun z q q0 q1 he => by
            by_cases e : q = b
            · rw [e] at he; exact absurd ⟨z, he⟩ hc
            · exact hnow z q q0 (by omega) he
          refine ⟨fun c2 => keep fun z => c2 z.1, fun c2 => ⟨by omega, fun c3 => keep fun z => c3 z.2.1, fun c3 => cm_areNear hC (by omega) (by omega) hp.1.2 fun x hx => ⟨x, rfl, fun c4 => keep fun z => ?_, fun c4 => ?_⟩⟩⟩
          · have := z.2.2; omega
          · have c2 : tbt t a = 1 := c2
            have he : eLn p a b := ⟨c3, by omega⟩
            have hv2 : imL p (p 10).toNat i (or_32 v (shl32 1 b)) := imL_or1 (k := a) (q := b) hN1 (by omega) (by omega) hv he fun T t0 t1 t2 t3 => ht.2.2.2.2 T t0 t1 t2 t3 a (by omega) (by omega) c2
            refine ih2 (b + 1) (or_32 v (shl32 1 b)) (by omega) hv2 (fun q g0 g1 z => ?_) fun z q q0 q1 he2 => ?_
            · rw [tb_or hv.2.1.1 hv.2.1.2 (by omega) (by omega) g0 g1]
              split
              · rfl
              · exact hsub2 q g0 g1 z
            · rw [tb_or hv.2.1.1 hv.2.1.2 (by omega) (by omega) q0 (by omega)]
              split
              · rfl
              · exact hnow z q q0 (by omega) he2
      exact inner (p 10).toNat 0 u (by omega) hu (fun _ _ _ z => z) fun _ q q0 q1 => by omega
  exact Y_met rfl 3 rfl (sg_X12_nearTo_0 _ _ _ (outer (p 10).toNat 0 t (by omega) ht (fun _ _ _ z => z) fun x x0 x1 => by omega))
theorem cm_chainOf {i : Int} (hp : OkPa p) (hC : linM m p) (h0 : 0 ≤ i) (h1 : i < p 10) (h : Q (some (vi (popB (cmBt p i)))) m) : MtX yX12_chainOf cX12_chainOf 4 (some .int) (d + 4) [vr 12 0, vi i] m Q := by
  obtain ⟨hN1, hN2⟩ := N_le hp
  obtain ⟨c1, c2⟩ := cmB_all hp h0 h1
  have fin : ∀ t, imL p (p 10).toNat i t → clL p (p 10).toNat t → Y cX12_chainOf 4 RX12 (d + 4) none 6 [some (vr 12 0), some (vi i), some (vi t), some (vi t)] [] m (fun r mem2 => rk (some .int) r ∧ Q r mem2) := by
    intro t ht hcl
    refine sg_X12_chainOf_6 _ _ _ _ _ ⟨fun _ => cm_bitsOf ht.2.1.1 ht.2.1.2 ⟨_, rfl, trivial, ?_⟩, fun c => absurd rfl c⟩
    rw [imL_un ht c1 hcl c2]
    exact h
  have key : ∀ (r : Nat) (s t : Int), 8 ≤ popB t + r → imL p (p 10).toNat i t → ¬ t = s → Y cX12_chainOf 4 RX12 (d + 4) none 6 [some (vr 12 0), some (vi i), some (vi s), some (vi t)] [] m (fun r mem2 => rk (some .int) r ∧ Q r mem2) := by
    intro r
    induction r with
    | zero =>
      intro s t hr ht _
      have := pop_rg ht.2.1.1 ht.2.1.2
      omega
    | succ r ih =>
      intro s t hr ht hne
      refine sg_X12_chainOf_6 _ _ _ _ _ ⟨fun c => absurd c hne, fun _ => cm_nearTo hp hC ht fun u hu hsub hcl => ⟨_, rfl, ?_⟩⟩
      by_cases e : u = t
      · have := fin t ht (hcl e)
        rw [e]
        exact this
      · have := pop_up ht.2.1 hu.2.1 hsub e
        exact ih t u (by omega) hu e
  have hs := imL_0 (p := p) (n := (p 10).toNat) h0 (by omega) hN1
  have p1 := b_a7 (P := fun i => popB (shl32 1 i) = 1 ∧ ¬ shl32 1 i = 0) (by decide +kernel) h0 (by omega : i < 7)
  exact Y_met rfl 2 rfl (sg_X12_chainOf_0 _ _ _ (key 7 0 (shl32 1 i) (by omega) hs p1.2))
theorem cm_line {w : Int} (hp : OkPa p) (hC : linM m p) (hw : 0 ≤ w ∧ w ≤ 2) (h : Q (some (vi (if w = 2 then lnC p (p 10).toNat else lnBt p w (p 10).toNat))) m) : MtX yX12_line cX12_line 6 (some .int) (d + 5) [vr 12 0, vi w] m Q := by
  obtain ⟨hN1, hN2⟩ := N_le hp
  have key : ∀ (r k : Nat), k + r = (p 10).toNat → Y cX12_line 6 RX12 (d + 5) none 18 [some (vr 12 0), some (vi w), some (vi (lnBt p w k)), some (vi (lnC p k)), some (vi k), none] [] m (fun r mem2 => rk (some .int) r ∧ Q r mem2) := by
    intro r
    induction r with
    | zero =>
      intro k hk
      have e : k = (p 10).toNat := by omega
      exact sg_X12_line_18 _ _ _ _ _ _ ⟨fun _ => ⟨fun c => ⟨trivial, by rw [if_neg c] at h; rw [e]; exact h⟩, fun c => ⟨trivial, by rw [if_pos c] at h; rw [e]; exact h⟩⟩, fun c => by rw [hC.1] at c; omega⟩
    | succ r ih =>
      intro k hk
      have r5 := hC.2.1 k (by omega) (by omega)
      have t01 := tb01 hp.2.2.1 hp.2.2.2 (i := k) (by omega) (by omega)
      have nx := ih (k + 1) (by omega)
      rw [lnB_s, lnC_s] at nx
      refine sg_X12_line_18 _ _ _ _ _ _ ⟨fun c => by rw [hC.1] at c; omega, fun _ => ⟨by omega, ?_⟩⟩
      rw [r5.2.2, w32n (by omega)]
      refine ⟨fun c2 => cm_chainOf hp hC (by omega) (by omega) ⟨_, rfl, ?_⟩, fun c2 => ?_⟩
      · have ht : tbt (p 11) k = 1 := by omega
        rw [if_pos ht] at nx
        have nxt : ∀ b5 : Int, Y cX12_line 6 RX12 (d + 5) none 57 [some (vr 12 0), some (vi w), some (vi (lnBt p w k)), some (vi (max (lnC p k) (popB (cmBt p k)))), some (vi k), some (vi (popB (cmBt p k)))] [] m (fun r mem2 => rk (some .int) r ∧ Q r mem2) := by
          intro _
          refine sg_X12_line_57 _ _ _ _ _ _ _ ?_
          rw [w32n (by omega), r5.1]
          refine ⟨fun c3 => ⟨fun c4 => ?_, fun c4 => ?_⟩, fun c3 => ⟨by omega, fun c4 => ?_, fun c4 => ⟨by omega, fun c5 => ?_, fun c5 => ?_⟩⟩⟩
          · rw [if_neg (fun z => by rw [if_neg c3] at z; exact c4 z.2)] at nx
            exact Y_fg (by exact ⟨rfl, rfl, rfl, rfl, rfl, trivial⟩) nx
          · rw [if_pos ⟨ht, by rw [if_neg c3]; exact c4⟩] at nx
            exact Y_fg (by exact ⟨rfl, rfl, rfl, rfl, rfl, trivial⟩) nx
          · rw [if_pos ⟨ht, by rw [if_pos c3]; exact Or.inl c4⟩] at nx
            exact Y_fg (by exact ⟨rfl, rfl, rfl, rfl, rfl, trivial⟩) nx
          · rw [if_neg (fun z => by rw [if_pos c3] at z; exact z.2.elim c4 c5)] at nx
            exact Y_fg (by exact ⟨rfl, rfl, rfl, rfl, rfl, trivial⟩) nx
          · rw [if_pos ⟨ht, by rw [if_pos c3]; exact Or.inr c5⟩] at nx
            exact Y_fg (by exact ⟨rfl, rfl, rfl, rfl, rfl, trivial⟩) nx
        have nxt := nxt 0
        refine ⟨fun c3 => ?_, fun c3 => ?_⟩
        · rw [Int.max_eq_left c3] at nxt
          exact nxt
        · rw [Int.max_eq_right (by omega)] at nxt
          exact nxt
      · rw [if_neg (c := tbt (p 11) k = 1 ∧ _) (fun z => by omega), if_neg (c := tbt (p 11) k = 1) (by omega)] at nx
        exact nx
  refine Y_met rfl 4 rfl (sg_X12_line_0 _ _ _ (cm_in fun x hx => ⟨x, rfl, fun _ => key (p 10).toNat 0 (by omega), fun c => by omega⟩))
theorem pr_line {w : Int} (hH : InvH m)
    (hQ : ∀ x m1, MtX yX12_line cX12_line 6 (some .int) (d + 6) [vr 12 0, vi w] m1 (fun r m2 => r = some (vi x) ∧ m2 = m) → Q (some (vi x)) m1) : MtX yX11_line cX11_line 2 (some .int) (d + 6) [vr 11 0, vi w] m Q := by
  have hp := pOf_ok hH
  have hi := pOf_in hH
  have hbc := pOf_bc hH
  have hbm := pOf_bm hH
  have hr : ∀ i : Int, 0 ≤ i → i < pOf m 10 → (0 ≤ pOf m (20 + i) ∧ pOf m (20 + i) ≤ 8) ∧ 0 ≤ pOf m (30 + i) ∧ pOf m (30 + i) ≤ 8 := fun i g0 g1 => by have := hi.1 i g0 g1; omega
  have hC : linC m (pOf m) := ⟨rfl, rfl, hbc.1, hr⟩
  have hM : linM m (pOf m) := ⟨hH.1.2.2.symm, hbm.1, hr⟩
  have fin : (0 ≤ w ∧ w ≤ 2) → ∀ x, x = (if w = 2 then lnC (pOf m) (pOf m 10).toNat else lnBt (pOf m) w (pOf m 10).toNat) → Q (some (vi x)) m := fun hw x hx => hQ _ _ (cm_line hp hM hw ⟨by rw [hx], rfl⟩)
  refine Y_met rfl 0 rfl (sg_X11_line_0 _ _ _ ⟨fun c => cc_corners hp hC ⟨_, rfl, trivial, fin (by omega) _ (by subst c; rfl)⟩, fun c => cc_alone hp hC ⟨_, rfl, trivial, fin (by omega) _ (by subst c; rfl)⟩, fun c => cc_chain hp hC ⟨_, rfl, trivial, fin (by omega) _ (by subst c; rfl)⟩, fun c => ⟨trivial, hQ _ _ ?_⟩⟩)
  exact Y_met rfl 4 rfl (sg_X12_line_0 _ _ _ (cm_in fun x hx => ⟨x, rfl, fun c2 => by omega, fun _ => ⟨trivial, rfl, rfl⟩⟩))
end
