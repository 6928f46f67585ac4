/-! a sheet -/
section
variable {d : Nat} {Q : Option AV → AMem → Prop}
abbrev TmS := Int × List Int
def lzB (b : Int) : Int := popB (w32 (an32 b (w32 (-b)) - 1))
theorem lz_ok {b : Int} (h1 : 0 ≤ b) (h2 : b < 128) (h : b ≠ 0) : (0 ≤ lzB b ∧ lzB b < 7) ∧ tbt b (lzB b) = 1 ∧ (∀ k : Fin 7, ((k.val : Nat) : Int) < lzB b → tbt b ((k.val : Nat) : Int) = 0) ∧ xo32 b (an32 b (w32 (-b))) = clb b (lzB b) ∧ (0 ≤ w32 (an32 b (w32 (-b)) - 1) ∧ w32 (an32 b (w32 (-b)) - 1) < 128) ∧ 1 ≤ popB b :=
  b_al1 (P := fun b => b ≠ 0 → (0 ≤ lzB b ∧ lzB b < 7) ∧ tbt b (lzB b) = 1 ∧ (∀ k : Fin 7, ((k.val : Nat) : Int) < lzB b → tbt b ((k.val : Nat) : Int) = 0) ∧ xo32 b (an32 b (w32 (-b))) = clb b (lzB b) ∧ (0 ≤ w32 (an32 b (w32 (-b)) - 1) ∧ w32 (an32 b (w32 (-b)) - 1) < 128) ∧ 1 ≤ popB b) (by decide +kernel) h1 h2 h
theorem pop_cl {b i : Int} (h1 : 0 ≤ b) (h2 : b < 128) (h3 : 0 ≤ i) (h4 : i < 7) : tbt b i = 1 → popB (clb b i) = popB b - 1 := b_all (P := fun b i => tbt b i = 1 → popB (clb b i) = popB b - 1) (by decide +kernel) h1 h2 h3 h4
theorem pop_or {b i : Int} (h1 : 0 ≤ b) (h2 : b < 128) (h3 : 0 ≤ i) (h4 : i < 7) : tbt b i = 0 → popB (or_32 b (shl32 1 i)) = popB b + 1 := b_all (P := fun b i => tbt b i = 0 → popB (or_32 b (shl32 1 i)) = popB b + 1) (by decide +kernel) h1 h2 h3 h4
theorem pop_eb {n : Int} (h1 : 0 ≤ n) (h2 : n ≤ 7) : popB (ebB n) = n := b_a8 (P := fun n => popB (ebB n) = n) (by decide +kernel) h1 h2
def okT (t : TmS) : Prop := (0 ≤ t.1 ∧ t.1 < 128) ∧ popB t.1 + (t.2.length : Int) ≤ 7 ∧ (∀ x ∈ t.2, (0 ≤ x ∧ x < 7) ∧ tbt t.1 x = 0) ∧ t.2.Nodup
theorem okT_l {t : TmS} (h : okT t) : t.2.length ≤ 7 := by
  have := pop_rg h.1.1 h.1.2
  have := h.2.1
  omega
def lvT (t : TmS) : TmS := if t.1 = 0 then t else (clb t.1 (lzB t.1), t.2 ++ [lzB t.1])
def ciT : TmS → TmS
  | (b, []) => (b, [])
  | (b, x :: q) => (or_32 b (shl32 1 x), q)
theorem lvT_n {t : TmS} (h : t.1 ≠ 0) : lvT t = (clb t.1 (lzB t.1), t.2 ++ [lzB t.1]) := by
  unfold lvT
  rw [if_neg h]
theorem okT_lv {t : TmS} (h : okT t) : okT (lvT t) := by
  unfold lvT
  split
  · exact h
  · rename_i c
    obtain ⟨z1, z2, z3, z4, z5, z6⟩ := lz_ok h.1.1 h.1.2 c
    refine ⟨cl_rg h.1.1 h.1.2 z1.1 z1.2, ?_, ?_, ?_⟩
    · have e := pop_cl h.1.1 h.1.2 z1.1 z1.2 z2
      have g := h.2.1
      show popB (clb t.1 (lzB t.1)) + ((t.2 ++ [lzB t.1]).length : Int) ≤ 7
      rw [e, List.length_append, List.length_singleton]
      omega
    · intro x hx
      show (0 ≤ x ∧ x < 7) ∧ tbt (clb t.1 (lzB t.1)) x = 0
      rcases List.mem_append.mp hx with q | q
      · have g := h.2.2.1 x q
        refine ⟨g.1, ?_⟩
        rw [tb_cl h.1.1 h.1.2 z1.1 z1.2 g.1.1 g.1.2]
        split
        · rfl
        · exact g.2
      · have e : x = lzB t.1 := by simpa using q
        rw [e]
        refine ⟨z1, ?_⟩
        rw [tb_cl h.1.1 h.1.2 z1.1 z1.2 z1.1 z1.2, if_pos rfl]
    · refine List.nodup_append.mpr ⟨h.2.2.2, by simp, ?_⟩
      intro a ha b hb e2
      have e : b = lzB t.1 := by simpa using hb
      have g := (h.2.2.1 a ha).2
      rw [e2, e, z2] at g
      exact absurd g (by decide)
theorem okT_ci : ∀ {t : TmS}, okT t → okT (ciT t)
  | (b, []), h => h
  | (b, x :: q), h => by
    obtain ⟨h1, h2, h3, h4⟩ := h
    have hx := h3 x (List.mem_cons_self ..)
    have hx1 : 0 ≤ x := hx.1.1
    have hx2 : x < 7 := hx.1.2
    have h11 : 0 ≤ b := h1.1
    have h12 : b < 128 := h1.2
    refine ⟨or_rg h11 h12 hx1 hx2, ?_, ?_, (List.nodup_cons.mp h4).2⟩
    · have e := pop_or h11 h12 hx1 hx2 hx.2
      show popB (or_32 b (shl32 1 x)) + (q.length : Int) ≤ 7
      have h2b : popB b + ((x :: q).length : Int) ≤ 7 := h2
      rw [List.length_cons] at h2b
      omega
    · intro y hy
      have g := h3 y (List.mem_cons_of_mem _ hy)
      refine ⟨g.1, ?_⟩
      show tbt (or_32 b (shl32 1 x)) y = 0
      rw [tb_or h11 h12 hx1 hx2 g.1.1 g.1.2, if_neg]
      · exact g.2
      · intro e
        exact (List.nodup_cons.mp h4).1 (e ▸ hy)
def itT (f : TmS → TmS) (t : TmS) : Nat → TmS
  | 0 => t
  | n + 1 => f (itT f t n)
theorem okT_itl {t : TmS} (h : okT t) : ∀ n, okT (itT lvT t n)
  | 0 => h
  | n + 1 => okT_lv (okT_itl h n)
theorem okT_itc {t : TmS} (h : okT t) : ∀ n, okT (itT ciT t n)
  | 0 => h
  | n + 1 => okT_ci (okT_itc h n)
theorem pop_itl {t : TmS} (h : okT t) : ∀ n : Nat, (n : Int) < popB t.1 → popB (itT lvT t n).1 = popB t.1 - n ∧ (itT lvT t n).1 ≠ 0
  | 0, hn => ⟨by show popB t.1 = popB t.1 - ((0 : Nat) : Int); omega, fun e => by
      have e2 : t.1 = 0 := e
      rw [e2] at hn
      exact absurd hn (by decide +kernel)⟩
  | n + 1, hn => by
    obtain ⟨g1, g2⟩ := pop_itl h n (by omega)
    have ok := okT_itl h n
    obtain ⟨z1, z2, z3, z4, z5, z6⟩ := lz_ok ok.1.1 ok.1.2 g2
    have e : popB (itT lvT t (n + 1)).1 = popB t.1 - ((n + 1 : Nat) : Int) := by
      show popB (lvT (itT lvT t n)).1 = _
      rw [lvT_n g2]
      show popB (clb (itT lvT t n).1 (lzB (itT lvT t n).1)) = _
      rw [pop_cl ok.1.1 ok.1.2 z1.1 z1.2 z2, g1]
      omega
    refine ⟨e, fun e0 => ?_⟩
    rw [e0, show popB 0 = 0 by decide +kernel] at e
    omega
/-- one team in the memory -/
def rTm (cB cN cL : Nat) (m : AMem) (a : Int) (t : TmS) : Prop := m cB 0 a = t.1 ∧ m cN 0 a = (t.2.length : Int) ∧ ∀ i : Nat, i < t.2.length → m cL 0 (7 * a + i) = t.2.getD i 0
def R2T (cB cN cL : Nat) (m : AMem) (a : Int) (t u : TmS) : Prop := rTm cB cN cL m a t ∧ rTm cB cN cL m (1 - a) u
theorem R2T_sw {cB cN cL : Nat} {m : AMem} {a : Int} {t u : TmS} (h : R2T cB cN cL m a t u) : R2T cB cN cL m (1 - a) u t := ⟨h.2, by rw [show 1 - (1 - a) = a by omega]; exact h.1⟩
theorem rTm_ot {cB cN cL : Nat} {m m2 : AMem} {a : Int} {t : TmS} (hk : okT t) (h : rTm cB cN cL m a t) (h1 : m2 cB 0 a = m cB 0 a) (h2 : m2 cN 0 a = m cN 0 a) (h3 : ∀ i : Int, 0 ≤ i → i < 7 → m2 cL 0 (7 * a + i) = m cL 0 (7 * a + i)) : rTm cB cN cL m2 a t := by
  have := okT_l hk
  exact ⟨h1.trans h.1, h2.trans h.2.1, fun i hi => (h3 i (by omega) (by omega)).trans (h.2.2 i hi)⟩
theorem gd_app {x : Int} : ∀ {l : List Int} {i : Nat}, i ≤ l.length → (l ++ [x]).getD i 0 = if i < l.length then l.getD i 0 else x
  | [], 0, _ => rfl
  | [], i + 1, h => by simp at h
  | y :: l, 0, _ => by simp
  | y :: l, i + 1, h => by
    have := gd_app (x := x) (l := l) (i := i) (by simpa using h)
    simpa using this
theorem rT_lv {cB cN cL : Nat} {m : AMem} {a : Int} {t u : TmS} (ha : a = 0 ∨ a = 1) (hc : cB ≠ cN ∧ cB ≠ cL ∧ cN ≠ cL) (ht : okT t) (hu : okT u) (h0 : t.1 ≠ 0) (h : R2T cB cN cL m a t u) : R2T cB cN cL (upM (upM (upM m cB 0 a (clb t.1 (lzB t.1))) cL 0 (7 * a + (t.2.length : Int)) (lzB t.1)) cN 0 a ((t.2.length : Int) + 1)) a (lvT t) u := by
  have hl := okT_l ht
  have hp := (lz_ok ht.1.1 ht.1.2 h0).2.2.2.2.2
  have hl2 := ht.2.1
  refine ⟨?_, rTm_ot hu h.2 ?_ ?_ ?_⟩
  · unfold lvT
    rw [if_neg h0]
    refine ⟨?_, ?_, fun i hi => ?_⟩
    · rw [up_k hc.1, up_k hc.2.1, up_s]
    · rw [up_s, List.length_append, List.length_singleton]
      omega
    · have hi2 : i < (t.2 ++ [lzB t.1]).length := hi
      rw [List.length_append, List.length_singleton] at hi2
      show _ = (t.2 ++ [lzB t.1]).getD i 0
      rw [gd_app (by omega), up_k hc.2.2.symm, up_eq, up_k hc.2.1.symm]
      by_cases c : i < t.2.length
      · rw [if_pos c, if_neg (by omega)]
        exact h.1.2.2 i c
      · rw [if_neg c, if_pos (by omega)]
  · rw [up_k hc.1, up_k hc.2.1, up_i (by omega)]
  · rw [up_i (by omega), up_k hc.2.2, up_k hc.1.symm]
  · intro i i0 i1
    rw [up_k hc.2.2.symm, up_i (by omega), up_k hc.2.1.symm]
/-- while the waiting move up -/
def mdT (cB cN cL : Nat) (m : AMem) (a b x : Int) (q : List Int) (j : Int) : Prop := m cB 0 a = b ∧ m cN 0 a = (q.length : Int) ∧ ∀ i : Nat, i ≤ q.length → m cL 0 (7 * a + i) = if (i : Int) < j then q.getD i 0 else (x :: q).getD i 0
theorem mdT_0 {cB cN cL : Nat} {m : AMem} {a b x : Int} {q : List Int} (hc : cB ≠ cN ∧ cB ≠ cL ∧ cN ≠ cL) (h : rTm cB cN cL m a (b, x :: q)) : mdT cB cN cL (upM (upM m cB 0 a (or_32 b (shl32 1 x))) cN 0 a (q.length : Int)) a (or_32 b (shl32 1 x)) x q 0 := by
  refine ⟨?_, up_s, fun i hi => ?_⟩
  · rw [up_k hc.1, up_s]
  · rw [up_k hc.2.2.symm, up_k hc.2.1.symm, if_neg (by omega)]
    exact h.2.2 i (by show i < (x :: q).length; rw [List.length_cons]; omega)
theorem mdT_s {cB cN cL : Nat} {m : AMem} {a b x j : Int} {q : List Int} (hc : cB ≠ cN ∧ cB ≠ cL ∧ cN ≠ cL) (h : mdT cB cN cL m a b x q j) (h0 : 0 ≤ j) (hj : j < q.length) : mdT cB cN cL (upM m cL 0 (7 * a + j) (m cL 0 (7 * a + j + 1))) a b x q (j + 1) := by
  refine ⟨?_, ?_, fun i hi => ?_⟩
  · rw [up_k hc.2.1]; exact h.1
  · rw [up_k hc.2.2]; exact h.2.1
  · rw [up_eq]
    by_cases c : (i : Int) = j
    · have e := h.2.2 (i + 1) (by omega)
      rw [if_neg (by omega), show 7 * a + ((i + 1 : Nat) : Int) = 7 * a + j + 1 by omega] at e
      rw [if_pos (by omega), if_pos (by omega), e]
      simp
    · rw [if_neg (by omega), h.2.2 i hi]
      by_cases c2 : (i : Int) < j
      · rw [if_pos c2, if_pos (by omega)]
      · rw [if_neg c2, if_neg (by omega)]
theorem mdT_e {cB cN cL : Nat} {m : AMem} {a b x : Int} {q : List Int} (h : mdT cB cN cL m a b x q q.length) : rTm cB cN cL m a (b, q) :=
  ⟨h.1, h.2.1, fun i hi => by
    have hi2 : i < q.length := hi
    have := h.2.2 i (by omega)
    rw [if_pos (by omega)] at this
    exact this⟩
theorem cc_leave {m : AMem} {a : Int} {t u : TmS} (ha : a = 0 ∨ a = 1) (ht : okT t) (hu : okT u) (hR : R2T 1000 1002 1003 m a t u) (h : ∀ m2, FrM [1000, 1002, 1003] m m2 → R2T 1000 1002 1003 m2 a (lvT t) u → Q none m2) : MtX yX9_leave cX9_leave 3 none (d + 1) [vr 9 0, vi a] m Q := by
  have ha2 : 0 ≤ a ∧ a < 2 := by omega
  have key : ∀ (r : Nat) (i : Int), i + r = 7 → 0 ≤ i → (∀ k : Int, 0 ≤ k → k < i → tbt t.1 k = 0) → Y cX9_leave 3 RX9 (d + 1) none 2 [some (vr 9 0), some (vi a), some (vi i)] [] m (fun r mem2 => rk none r ∧ Q r mem2) := by
    intro r
    induction r with
    | zero =>
      intro i hi h0 hz
      have e : t.1 = 0 := b_ext ht.1.1 ht.1.2 (by decide) (by decide) fun k k0 k1 => by
        rw [hz k k0 (by omega)]
        exact (b_a7 (P := fun k => tbt 0 k = 0) (by decide +kernel) k0 k1).symm
      have e2 : lvT t = t := by unfold lvT; rw [if_pos e]
      refine sg_X9_leave_2 _ _ _ _ ⟨fun _ => sg_X9_leave_27 _ _ _ _ ⟨fun _ => ⟨trivial, h m (FrM_refl _ _) (by rw [e2]; exact hR)⟩, fun c => by omega⟩, fun c => by omega⟩
    | succ r ih =>
      intro i hi h0 hz
      refine sg_X9_leave_2 _ _ _ _ ⟨fun c => by omega, fun _ => ⟨ha2, fun c => ?_, fun c => ?_⟩⟩
      · have c : tbt t.1 i ≠ 0 := by rw [← hR.1.1]; exact c
        have c0 : t.1 ≠ 0 := fun e => c (by rw [e]; exact b_a7 (P := fun k => tbt 0 k = 0) (by decide +kernel) h0 (by omega))
        obtain ⟨z1, z2, z3, z4, z5, z6⟩ := lz_ok ht.1.1 ht.1.2 c0
        have e : lzB t.1 = i := by
          rcases Int.lt_trichotomy (lzB t.1) i with q | q | q
          · exact absurd (hz _ z1.1 q) (by rw [z2]; decide)
          · exact q
          · have := z3 ⟨i.toNat, by omega⟩ (by show ((i.toNat : Nat) : Int) < _; omega)
            rw [show (((⟨i.toNat, by omega⟩ : Fin 7).val : Nat) : Int) = i by show ((i.toNat : Nat) : Int) = i; omega] at this
            exact absurd this c
        have hl := ht.2.1
        have hk := rT_lv (cB := 1000) (cN := 1002) (cL := 1003) ha (by decide) ht hu c0 hR
        refine sg_X9_leave_27 _ _ _ _ ⟨fun c => by omega, fun _ => ⟨ha2, fun c => ?_, fun _ => ?_⟩⟩
        · rw [hR.1.2.1] at c; omega
        · rw [hR.1.1, hR.1.2.1, w32i (z := a * 7) (by omega) (by omega), w32i (z := a * 7 + (t.2.length : Int)) (by omega) (by omega), w32i (z := (t.2.length : Int) + 1) (by omega) (by omega), show a * 7 + (t.2.length : Int) = 7 * a + (t.2.length : Int) by omega, show an32 t.1 (xo32 (shl32 1 i) (-1)) = clb t.1 (lzB t.1) by rw [e]; rfl, ← e]
          exact ⟨ha2, ha2, ha2, by omega, ha2, ha2, trivial, h _ (FrM_uk (FrM_uk (FrM_uk (FrM_refl _ _) (by decide) (by decide)) (by decide) (by decide)) (by decide) (by decide)) hk⟩
      · have c : tbt t.1 i = 0 := by rw [← hR.1.1]; exact c
        rw [w32i (z := i + 1) (by omega) (by omega)]
        exact ih (i + 1) (by omega) (by omega) fun k k0 k1 => by
          by_cases q : k = i
          · rw [q]; exact c
          · exact hz k k0 (by omega)
  exact Y_met rfl 1 rfl (sg_X9_leave_0 _ _ _ (key 7 0 (by decide) (by decide) fun k k0 k1 => by omega))
theorem cm_goesOut {m : AMem} {a : Int} {t u : TmS} (ha : a = 0 ∨ a = 1) (ht : okT t) (hu : okT u) (c0 : t.1 ≠ 0) (hR : R2T 1345 1346 1347 m a t u) (h : ∀ m2, FrM [1345, 1346, 1347] m m2 → R2T 1345 1346 1347 m2 a (lvT t) u → Q none m2) : MtX yX12_goesOut cX12_goesOut 3 none (d + 2) [vr 12 0, vi a] m Q := by
  have ha2 : 0 ≤ a ∧ a < 2 := by omega
  obtain ⟨z1, z2, z3, z4, z5, z6⟩ := lz_ok ht.1.1 ht.1.2 c0
  have hl := ht.2.1
  have hk := rT_lv (cB := 1345) (cN := 1346) (cL := 1347) ha (by decide) ht hu c0 hR
  refine Y_met rfl 1 rfl (sg_X12_goesOut_0 _ _ _ ?_)
  rw [hR.1.1]
  refine ⟨ha2, ha2, ha2, ha2, ha2, cm_bitsOf z5.1 z5.2 ⟨_, rfl, ?_⟩⟩
  rw [up_k (by decide), hR.1.2.1, z4, show popB (w32 (an32 t.1 (w32 (-t.1)) - 1)) = lzB t.1 from rfl, w32i (z := 7 * a) (by omega) (by omega), w32i (z := 7 * a + (t.2.length : Int)) (by omega) (by omega), w32i (z := (t.2.length : Int) + 1) (by omega) (by omega)]
  exact ⟨by omega, ha2, ha2, trivial, h _ (FrM_uk (FrM_uk (FrM_uk (FrM_refl _ _) (by decide) (by decide)) (by decide) (by decide)) (by decide) (by decide)) hk⟩
theorem cc_comeIn {m : AMem} {a : Int} {t u : TmS} (ha : a = 0 ∨ a = 1) (ht : okT t) (hu : okT u) (hR : R2T 1000 1002 1003 m a t u) (h : ∀ m2, FrM [1000, 1002, 1003] m m2 → R2T 1000 1002 1003 m2 a (ciT t) u → Q none m2) : MtX yX9_comeIn cX9_comeIn 4 none (d + 1) [vr 9 0, vi a] m Q := by
  have ha2 : 0 ≤ a ∧ a < 2 := by omega
  obtain ⟨b, l⟩ := t
  have hl := okT_l ht
  cases l with
  | nil =>
    have e : m 1002 0 a = 0 := hR.1.2.1
    exact Y_met rfl 2 rfl (sg_X9_comeIn_0 _ _ _ ⟨ha2, fun c => absurd e c, fun _ => ⟨trivial, h m (FrM_refl _ _) hR⟩⟩)
  | cons x q =>
    have e : m 1002 0 a = (q.length : Int) + 1 := by
      have := hR.1.2.1
      rw [List.length_cons] at this
      omega
    have hl : q.length + 1 ≤ 7 := hl
    have e2 : m 1003 0 (7 * a) = x := by
      have := hR.1.2.2 0 (by show 0 < (x :: q).length; rw [List.length_cons]; omega)
      rw [show 7 * a + ((0 : Nat) : Int) = 7 * a by omega] at this
      exact this
    have e3 : m 1000 0 a = b := hR.1.1
    have loop : ∀ (r : Nat) (j : Int) (mm : AMem), j + r = q.length → 0 ≤ j → FrM [1000, 1002, 1003] m mm → mdT 1000 1002 1003 mm a (or_32 b (shl32 1 x)) x q j → rTm 1000 1002 1003 mm (1 - a) u → Y cX9_comeIn 4 RX9 (d + 1) none 44 [some (vr 9 0), some (vi a), some (vi (7 * a)), some (vi j)] [] mm (fun r mem2 => rk none r ∧ Q r mem2) := by
      intro r
      induction r with
      | zero =>
        intro j mm hj h0 hF hD hU
        have ej : j = q.length := by omega
        subst ej
        exact sg_X9_comeIn_44 _ _ _ _ _ ⟨ha2, fun _ => ⟨trivial, h mm hF ⟨mdT_e hD, hU⟩⟩, fun c => absurd (Int.le_of_eq hD.2.1) c⟩
      | succ r ih =>
        intro j mm hj h0 hF hD hU
        refine sg_X9_comeIn_44 _ _ _ _ _ ⟨ha2, fun c => ?_, fun _ => ?_⟩
        · rw [hD.2.1] at c; omega
        · rw [w32i (z := 7 * a + j) (by omega) (by omega), w32i (z := 7 * a + j + 1) (by omega) (by omega), w32i (z := j + 1) (by omega) (by omega)]
          refine ⟨by omega, by omega, ih (j + 1) _ (by omega) (by omega) (FrM_uk hF (by decide) (by decide)) (mdT_s (by decide) hD h0 (by omega)) (rTm_ot hu hU (up_k (by decide)) (up_k (by decide)) fun i i0 i1 => up_i (by omega))⟩
    refine Y_met rfl 2 rfl (sg_X9_comeIn_0 _ _ _ ⟨ha2, fun _ => ?_, fun c => by omega⟩)
    rw [w32i (z := a * 7) (by omega) (by omega), show a * 7 = 7 * a by omega, e2, e3, e, w32i (z := (q.length : Int) + 1 - 1) (by omega) (by omega), show (q.length : Int) + 1 - 1 = q.length by omega]
    refine ⟨ha2, by omega, ha2, ha2, ha2, loop q.length 0 _ (by omega) (by decide) (FrM_uk (FrM_uk (FrM_refl _ _) (by decide) (by decide)) (by decide) (by decide)) (mdT_0 (by decide) hR.1) (rTm_ot hu hR.2 ?_ ?_ fun i i0 i1 => ?_)⟩
    · rw [up_k (by decide), up_i (by omega)]
    · rw [up_i (by omega), up_k (by decide)]
    · rw [up_k (by decide), up_k (by decide)]
theorem cm_comesBack {m : AMem} {a : Int} {t u : TmS} (ha : a = 0 ∨ a = 1) (ht : okT t) (hu : okT u) (hR : R2T 1345 1346 1347 m a t u) (h : ∀ m2, FrM [1345, 1346, 1347] m m2 → R2T 1345 1346 1347 m2 a (ciT t) u → Q none m2) : MtX yX12_comesBack cX12_comesBack 3 none (d + 1) [vr 12 0, vi a] m Q := by
  have ha2 : 0 ≤ a ∧ a < 2 := by omega
  obtain ⟨b, l⟩ := t
  have hl := okT_l ht
  cases l with
  | nil =>
    have e : m 1346 0 a = 0 := hR.1.2.1
    exact Y_met rfl 1 rfl (sg_X12_comesBack_0 _ _ _ ⟨ha2, fun c => absurd e c, fun _ => ⟨trivial, h m (FrM_refl _ _) hR⟩⟩)
  | cons x q =>
    have e : m 1346 0 a = (q.length : Int) + 1 := by
      have := hR.1.2.1
      rw [List.length_cons] at this
      omega
    have hl : q.length + 1 ≤ 7 := hl
    have e2 : m 1347 0 (7 * a) = x := by
      have := hR.1.2.2 0 (by show 0 < (x :: q).length; rw [List.length_cons]; omega)
      rw [show 7 * a + ((0 : Nat) : Int) = 7 * a by omega] at this
      exact this
    have e3 : m 1345 0 a = b := hR.1.1
    have loop : ∀ (r : Nat) (j : Int) (mm : AMem), j + r = q.length → 0 ≤ j → FrM [1345, 1346, 1347] m mm → mdT 1345 1346 1347 mm a (or_32 b (shl32 1 x)) x q j → rTm 1345 1346 1347 mm (1 - a) u → Y cX12_comesBack 3 RX12 (d + 1) none 42 [some (vr 12 0), some (vi a), some (vi j)] [] mm (fun r mem2 => rk none r ∧ Q r mem2) := by
      intro r
      induction r with
      | zero =>
        intro j mm hj h0 hF hD hU
        have ej : j = q.length := by omega
        subst ej
        exact sg_X12_comesBack_42 _ _ _ _ ⟨ha2, fun _ => ⟨trivial, h mm hF ⟨mdT_e hD, hU⟩⟩, fun c => absurd (Int.le_of_eq hD.2.1) c⟩
      | succ r ih =>
        intro j mm hj h0 hF hD hU
        refine sg_X12_comesBack_42 _ _ _ _ ⟨ha2, fun c => ?_, fun _ => ?_⟩
        · rw [hD.2.1] at c; omega
        · rw [w32i (z := 7 * a) (by omega) (by omega), w32i (z := 7 * a + j) (by omega) (by omega), w32i (z := 7 * a + j + 1) (by omega) (by omega), w32i (z := j + 1) (by omega) (by omega)]
          refine ⟨by omega, by omega, ih (j + 1) _ (by omega) (by omega) (FrM_uk hF (by decide) (by decide)) (mdT_s (by decide) hD h0 (by omega)) (rTm_ot hu hU (up_k (by decide)) (up_k (by decide)) fun i i0 i1 => up_i (by omega))⟩
    refine Y_met rfl 1 rfl (sg_X12_comesBack_0 _ _ _ ⟨ha2, fun _ => ?_, fun c => by omega⟩)
    rw [w32i (z := 7 * a) (by omega) (by omega), e2, e3, e, w32i (z := (q.length : Int) + 1 - 1) (by omega) (by omega), show (q.length : Int) + 1 - 1 = q.length by omega]
    refine ⟨ha2, by omega, ha2, ha2, ha2, loop q.length 0 _ (by omega) (by decide) (FrM_uk (FrM_uk (FrM_refl _ _) (by decide) (by decide)) (by decide) (by decide)) (mdT_0 (by decide) hR.1) (rTm_ot hu hR.2 ?_ ?_ fun i i0 i1 => ?_)⟩
    · rw [up_k (by decide), up_i (by omega)]
    · rw [up_i (by omega), up_k (by decide)]
    · rw [up_k (by decide), up_k (by decide)]
end
