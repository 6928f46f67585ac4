/-! the reference reads a whole text and lays it down -/
def TxM (T : Int → Int) (n : Int) (m0 m : AMem) (ls : LnL) (p : Int) : Prop := PrM T n m p 0 ∧ (m 12 0 18 = lenL ls ∧ m 1321 0 1 = ls.length ∧ 2 * (ls.length : Int) ≤ p + 1) ∧ enB m 0 0 ls ∧ okL ls ∧ FrY m0 m
def FrZ (m m2 : AMem) : Prop := ∀ k j i, ¬ (k = 12 ∧ (14 ≤ i ∧ i ≤ 18)) → k ∉ [1319, 1320, 1321, 1322, 1323] → m2 k j i = m k j i
theorem mcF_rg (c : Int) : 1 ≤ mcF c ∧ mcF c ≤ 124 := by
  unfold mcF jcF
  (repeat' split) <;> omega
theorem mcF_b8 (c : Int) : b8 (mcF c) = mcF c := by
  have := mcF_rg c
  rw [b8v (by omega) (by omega), if_pos (by omega)]
theorem enM_sh {f g f2 g2 : Int → Int} : ∀ {a : OpL} {x : Int}, (∀ i : Int, x ≤ i → i < x + a.length → f2 i = b8 (f (130 + i)) ∧ g2 i = g (130 + i)) → enM f g (130 + x) a → enM f2 g2 x a := by
  intro a
  induction a with
  | nil => intro x _ _; trivial
  | cons o os ih =>
    intro x h h2
    have el : (((o :: os).length : Nat) : Int) = os.length + 1 := by simp
    rw [el] at h
    obtain ⟨q1, q2⟩ := h x (by omega) (by omega)
    refine ⟨by rw [q1, h2.1, mcF_b8], fun c => q2.trans (h2.2.1 c), ih (fun i c c2 => h i (by omega) (by omega)) ?_⟩
    rw [show 130 + (x + 1) = 130 + x + 1 by omega]
    exact h2.2.2
theorem enN_cp {M m2 : AMem} : ∀ {ls : LnL} {y x : Int}, enB M y x ls → 0 ≤ y → 0 ≤ x → y + ls.length ≤ 61 → x + lenL ls ≤ 125 → m2 1321 0 0 = y + ls.length → (∀ i : Int, 0 ≤ i → i < y + ls.length → m2 1322 0 i = s16 (M 1322 0 (61 + i)) ∧ m2 1323 0 i = s16 (M 1323 0 (61 + i))) → (∀ i : Int, 0 ≤ i → i < x + lenL ls → m2 1319 0 i = b8 (M 1319 0 (130 + i)) ∧ m2 1320 0 i = M 1320 0 (130 + i)) → enN m2 y x ls := by
  intro ls
  induction ls with
  | nil => intro y x _ _ _ _ _ h _ _; show m2 1321 0 0 = y; rw [h]; simp
  | cons q r ih =>
    intro y x h h0 h1 h2 h3 h4 h5 h6
    obtain ⟨t, c⟩ := q
    obtain ⟨g1, g2, g3, g4⟩ := h
    have el : ((((t, c) :: r).length : Nat) : Int) = r.length + 1 := by simp
    have el2 : ((lenL ((t, c) :: r) : Nat) : Int) = t.length + c.length + lenL r := by simp [lenL]
    have el3 : (((t ++ c).length : Nat) : Int) = t.length + c.length := by simp
    rw [el] at h2 h4 h5
    rw [el2] at h3 h6
    have q := h5 y h0 (by omega)
    refine ⟨?_, ?_, enM_sh (fun i c1 c2 => h6 i (by omega) (by omega)) g3, ih g4 (by omega) (by omega) (by omega) (by omega) (by omega) (fun i c1 c2 => h5 i c1 (by omega)) fun i c1 c2 => h6 i c1 (by omega)⟩
    · rw [q.1, g1, s16v (by omega) (by omega)]
    · rw [q.2, g2, s16v (by omega) (by omega)]
section
variable {m m0 m1 m2 m3 M : AMem} {T : Int → Int} {n p o p1 p2 w s : Int} {ls : LnL} {q : OpL × OpL} {f d : Nat} {Q : Option AV → AMem → Prop}
def CpyA (M m : AMem) (i : Int) : Prop := (∀ x : Int, 0 ≤ x → x < i → m 1319 0 x = b8 (M 1319 0 (130 + x)) ∧ m 1320 0 x = M 1320 0 (130 + x)) ∧ ∀ k j x, ¬ ((k = 1319 ∨ k = 1320) ∧ x < 130) → m k j x = M k j x
def CpyB (M m : AMem) (i : Int) : Prop := (∀ x : Int, 0 ≤ x → x < i → m 1322 0 x = s16 (M 1322 0 (61 + x)) ∧ m 1323 0 x = s16 (M 1323 0 (61 + x))) ∧ ∀ k j x, ¬ ((k = 1322 ∨ k = 1323) ∧ x < 61) → m k j x = M k j x
theorem cm_cpA (hs : M 12 0 18 = s) (hs2 : s ≤ 125) (h : ∀ m2, CpyA M m2 s → Y cX12_readText 3 RX12 (d + 1) none 177 [some (vr 12 0), some (vi 0), some (vi 0)] [] (upM m2 1321 0 0 (m2 1321 0 1)) Q) : ∀ (j : Nat) (i : Int) (m : AMem), 0 ≤ i → i + j = s → CpyA M m i → Y cX12_readText 3 RX12 (d + 1) none 105 [some (vr 12 0), some (vi 0), some (vi i)] [] m Q := by
  intro j
  induction j with
  | zero =>
    intro i m h0 hi hC
    obtain rfl : i = s := by omega
    have e : m 12 0 18 = i := (hC.2 _ _ _ (by omega)).trans hs
    exact sg_X12_readText_105 _ _ _ _ ⟨fun _ => ⟨by decide, by decide, h m hC⟩, fun c => by omega⟩
  | succ j ih =>
    intro i m h0 hi hC
    have e : m 12 0 18 = s := (hC.2 _ _ _ (by omega)).trans hs
    have e1 : w32 (130 + i) = 130 + i := w32i (by omega) (by omega)
    have e2 : w32 (w32 (130 * 0) + i) = i := by rw [w32i (z := 130 * 0) (by decide) (by decide), w32i (by omega) (by omega)]; omega
    refine sg_X12_readText_105 _ _ _ _ ⟨fun c => by omega, fun _ => ⟨by rw [e1]; omega, by rw [e2]; omega, by rw [e1]; omega, by rw [e2]; omega, ?_⟩⟩
    rw [e1, e2, w32i (z := i + 1) (by omega) (by omega)]
    refine ih (i + 1) _ (by omega) (by omega) ⟨fun x c c2 => ?_, fun k j2 x c => ?_⟩
    · by_cases cx : x = i
      · subst cx
        refine ⟨?_, ?_⟩
        · rw [up_k (by decide), up_s, hC.2 _ _ _ (by omega)]
        · rw [up_s, hC.2 _ _ _ (by omega)]
      · rw [up_k (k := 1320) (by decide), up_i cx, up_i cx, up_k (k := 1319) (by decide)]
        exact hC.1 x c (by omega)
    · rw [← hC.2 k j2 x c]
      by_cases k1 : k = 1320
      · subst k1
        have cx : x ≠ i := fun z => c ⟨Or.inr rfl, by omega⟩
        unfold upM
        simp [cx]
      · rw [up_k k1]
        by_cases k2 : k = 1319
        · subst k2
          have cx : x ≠ i := fun z => c ⟨Or.inl rfl, by omega⟩
          unfold upM
          simp [cx]
        · exact up_k k2
theorem cm_cpB {c : Int} (hs : M 1321 0 0 = c) (hs2 : c ≤ 61) (h : ∀ m2, CpyB M m2 c → Q (some (vi (-1))) m2) : ∀ (j : Nat) (i : Int) (m : AMem), 0 ≤ i → i + j = c → CpyB M m i → Y cX12_readText 3 RX12 (d + 1) none 177 [some (vr 12 0), some (vi 0), some (vi i)] [] m Q := by
  intro j
  induction j with
  | zero =>
    intro i m h0 hi hC
    obtain rfl : i = c := by omega
    have e : m 1321 0 0 = i := (hC.2 _ _ _ (by omega)).trans hs
    exact sg_X12_readText_177 _ _ _ _ ⟨by decide, fun _ => h m hC, fun c => by omega⟩
  | succ j ih =>
    intro i m h0 hi hC
    have e : m 1321 0 0 = c := (hC.2 _ _ _ (by omega)).trans hs
    have e1 : w32 (61 + i) = 61 + i := w32i (by omega) (by omega)
    have e2 : w32 (w32 (61 * 0) + i) = i := by rw [w32i (z := 61 * 0) (by decide) (by decide), w32i (by omega) (by omega)]; omega
    refine sg_X12_readText_177 _ _ _ _ ⟨by decide, fun c => by omega, fun _ => ⟨by rw [e1]; omega, by rw [e2]; omega, by rw [e1]; omega, by rw [e2]; omega, ?_⟩⟩
    rw [e1, e2, w32i (z := i + 1) (by omega) (by omega)]
    refine ih (i + 1) _ (by omega) (by omega) ⟨fun x c c2 => ?_, fun k j2 x c => ?_⟩
    · by_cases cx : x = i
      · subst cx
        refine ⟨?_, ?_⟩
        · rw [up_k (by decide), up_s, hC.2 _ _ _ (by omega)]
        · rw [up_s, hC.2 _ _ _ (by omega)]
      · rw [up_k (k := 1323) (by decide), up_i cx, up_i cx, up_k (k := 1322) (by decide)]
        exact hC.1 x c (by omega)
    · rw [← hC.2 k j2 x c]
      by_cases k1 : k = 1323
      · subst k1
        have cx : x ≠ i := fun z => c ⟨Or.inr rfl, by omega⟩
        unfold upM
        simp [cx]
      · rw [up_k k1]
        by_cases k2 : k = 1322
        · subst k2
          have cx : x ≠ i := fun z => c ⟨Or.inl rfl, by omega⟩
          unfold upM
          simp [cx]
        · exact up_k k2
theorem TxM_ln (hP : PrM T n m1 p 0) (h18 : m1 12 0 18 = lenL ls) (h21 : m1 1321 0 1 = ls.length) (h2 : 2 * (ls.length : Int) ≤ p) (he : enB m1 0 0 ls) (ho : okL ls) (hF : FrY m0 m1) (hL : LnM m1 m2 p2 q) (hq : p ≤ p2 ∧ p2 ≤ n ∧ okL [q] ∧ 1 ≤ q.2.length ∧ ((q.1 = [] ∧ (q.2.length : Int) ≤ p2 - p) ∨ (q.1 ≠ [] ∧ (q.1.length : Int) + q.2.length + 1 ≤ p2 - p))) : TxM T n m0 m2 (ls ++ [q]) p2 := by
  obtain ⟨⟨b1, b2, b3⟩, b5, b6, b7, b8, b9, b10, b11⟩ := hP
  obtain ⟨⟨a1, a2, a3, a4, a5⟩, a6, a7, a8, a9⟩ := hL
  obtain ⟨q1, q2, q3, q4, q5⟩ := hq
  have hll : ((ls ++ [q]).length : Int) = ls.length + 1 := by rw [List.length_append]; simp
  have hl2 : ((lenL (ls ++ [q]) : Nat) : Int) = lenL ls + (q.1.length + q.2.length) := by
    rw [lenL_app]
    obtain ⟨t, c⟩ := q
    simp [lenL]
  have hq5 : (q.1.length : Int) + q.2.length ≤ p2 - p := by
    rcases q5 with q5 | q5
    · rw [q5.1]; simp; omega
    · omega
  refine ⟨⟨⟨?_, b2, fun i c c2 => ?_⟩, a1, a2, a3.trans b7, by omega, by omega, by omega, q2⟩, ⟨by omega, by omega, by omega⟩, ?_, okL_app ho q3, FrY_trans hF a9⟩
  · rw [a9 12 0 14 (by omega) (by omega) (by omega) (by omega)]; exact b1
  · rw [a9 1313 0 i (by omega) (by omega) (by omega) (by omega)]; exact b3 i c c2
  · refine enB_app (enB_cg (fun i c c2 => a8 i (by omega)) (fun i c c2 => a7 i (by omega)) he) ?_
    rw [show (0 : Int) + ls.length = m1 1321 0 1 by omega, show (0 : Int) + lenL ls = m1 12 0 18 by omega]
    exact a6
theorem cm_rdL (hd : 70 ≤ d) : ∀ (f : Nat) (p p2 : Int) (b : Option LnL), RdS T n f p p2 b → ∀ (m : AMem) (ls : LnL), TxM T n m0 m ls p → (b = none ∨ p2 < n → ∀ m2, FrY m0 m2 → Q (some (vi p2)) (upM m2 12 0 14 0)) →
    (∀ x, b = some x → ¬ p2 < n → ∀ m2, TxM T n m0 m2 (ls ++ x) p2 → Y cX12_readText 3 RX12 (d + 1) none 105 [some (vr 12 0), some (vi 0), some (vi 0)] [] (upM m2 12 0 14 0) Q) →
    Y cX12_readText 3 RX12 (d + 1) none 31 [some (vr 12 0), some (vi 0), none] [] m Q := by
  intro f
  induction f with
  | zero => intro p p2 b h; exact absurd h id
  | succ f ih =>
    intro p p2 b h m ls hX h1 h2
    have hX0 := hX
    obtain ⟨hP, ⟨x18, x21, x2⟩, xB, xO, xF⟩ := hX0
    have hb := PrM_pk hP
    have h15 := hP.2.1
    have h16 := hP.2.2.1
    have h14 := hP.1.1
    have hz := hP.2.2.2.2
    have hn := hP.1.2.1
    refine sg_X12_readText_31 _ _ _ ⟨fun c => by omega, fun _ => cm_lk hP (by omega) ⟨_, rfl, fun c => ?_, fun c => ?_⟩⟩
    · have c : ¬ pkT T n p = 59 := fun z => c ((bq hb.1 hb.2 (by decide) (by decide)).mpr z)
      rcases RdS_1 h with ⟨_, e1, e2⟩ | ⟨c2, _⟩
      · subst e1 e2
        refine sg_X12_readText_64 _ _ _ ⟨fun c3 => by omega, fun _ => ⟨fun c3 => ⟨fun _ => h2 [] rfl (by omega) m (by rw [List.append_nil]; exact hX), fun c4 => by omega⟩, fun c3 => cm_wrong (by omega) (fun c4 => by omega) fun _ => ⟨rfl, fun c4 => ?_, fun c4 => ?_⟩⟩⟩
        · rw [up_s] at c4; omega
        · rw [up_s, h15]
          exact h1 (Or.inr (by omega)) _ (FrY_up xF (Or.inl ⟨rfl, Or.inr (Or.inl rfl)⟩))
      · exact absurd c2 c
    · have c := (bq hb.1 hb.2 (by decide) (by decide)).mp c
      have hl := pkT_lt (T := T) (n := n) (p := p) (by omega)
      have hP1 := PrM_mv hP (v := p + 1) (by omega) (by omega)
      have hF1 : FrY m0 (upM m 12 0 15 (p + 1)) := FrY_up xF (Or.inl ⟨rfl, Or.inl rfl⟩)
      have e21 : (upM m 12 0 15 (p + 1)) 1321 0 1 = m 1321 0 1 := up_k (by decide)
      have e18 : (upM m 12 0 15 (p + 1)) 12 0 18 = m 12 0 18 := up_i (by decide)
      have eB : enB (upM m 12 0 15 (p + 1)) 0 0 ls := enB_cg (fun i _ _ => ⟨up_k (by decide), up_k (by decide)⟩) (fun i _ _ => ⟨up_k (by decide), up_k (by decide)⟩) xB
      rw [h15, w32i (z := p + 1) (by omega) (by omega)]
      rcases RdS_1 h with ⟨c3, _⟩ | ⟨_, ⟨e, g⟩ | ⟨p1, q, x, g, g2, e⟩⟩
      · exact absurd c c3
      · refine cm_oneLine g hP1 (by rw [e21]; omega) hd (fun _ m2 k6 k0 kF => ⟨rfl, ?_⟩) fun q hq => by simp at hq
        exact sg_X12_readText_31 _ _ _ ⟨fun _ => sg_X12_readText_64 _ _ _ ⟨fun _ => ⟨fun c4 => by omega, fun _ => by rw [k6]; exact h1 (Or.inl e) m2 (FrY_trans hF1 kF)⟩, fun c4 => by omega⟩, fun c4 => by omega⟩
      · have hf := RdN_f g (by omega)
        refine cm_oneLine g hP1 (by rw [e21]; omega) hd (fun z => by simp at z) fun q' hq m2 hL => ⟨rfl, ?_⟩
        have hq := Option.some.inj hq
        subst hq
        have hX2 := TxM_ln hP1 (e18.trans x18) (e21.trans x21) (by omega) eB xO hF1 hL ⟨hf.1, hf.2.1, hf.2.2 q rfl⟩
        refine ih _ _ _ g2 m2 _ hX2 (fun c => h1 ?_) fun y hy c m3 h3 => ?_
        · rcases c with c | c
          · left; rw [e, c]; rfl
          · exact Or.inr c
        · subst hy
          rw [List.append_assoc] at h3
          exact h2 (q :: y) e c m3 h3
theorem cm_readText {res : Option LnL} (h : RdT T n f p2 res) (hn0 : 0 ≤ n) (hn : n ≤ 120) (h14 : m 12 0 14 = n) (hT : ∀ i : Int, 0 ≤ i → i < n → 0 ≤ T i ∧ T i ≤ 255 ∧ m 1313 0 i = b8 (T i)) (hd : 71 ≤ d) (h1 : res = none ∨ p2 < n → ∀ m2, FrY m m2 → Q (some (vi p2)) (upM m2 12 0 14 0))
    (h2 : ∀ x, res = some x → ¬ p2 < n → ∀ m2, FrZ m m2 → m2 12 0 14 = 0 → lenL x ≤ 121 → m2 1321 0 0 ≤ 61 → enN m2 0 0 x → okL x → Q (some (vi (-1))) m2) : MtX yX12_readText cX12_readText 3 (some .int) d [vr 12 0, vi 0] m Q := by
  obtain ⟨d, rfl, hd⟩ := dup1 hd
  refine Y_met rfl 1 rfl (sg_X12_readText_0 _ _ _ ⟨by decide, ?_⟩)
  generalize hmS : upM (upM (upM (upM (upM m 12 0 15 0) 12 0 16 (-1)) 12 0 17 0) 12 0 18 0) 1321 0 1 0 = mS
  have hF : FrY m mS := by
    subst hmS
    exact FrY_up (FrY_up (FrY_up (FrY_up (FrY_up FrY_refl (Or.inl ⟨rfl, Or.inl rfl⟩)) (Or.inl ⟨rfl, Or.inr (Or.inl rfl)⟩)) (Or.inl ⟨rfl, Or.inr (Or.inr (Or.inl rfl))⟩)) (Or.inl ⟨rfl, Or.inr (Or.inr (Or.inr rfl))⟩)) (Or.inr (Or.inr (Or.inl ⟨rfl, rfl⟩)))
  have s18 : mS 12 0 18 = 0 := by subst hmS; rw [up_k (by decide), up_s]
  have s21 : mS 1321 0 1 = 0 := by subst hmS; exact up_s
  have hP : PrM T n mS 0 0 := by
    refine ⟨⟨?_, hn, fun i c c2 => ?_⟩, ?_, ?_, ?_, by omega, by omega, by omega, hn0⟩
    · rw [hF 12 0 14 (by omega) (by omega) (by omega) (by omega)]; exact h14
    · rw [hF 1313 0 i (by omega) (by omega) (by omega) (by omega)]; exact hT i c c2
    · subst hmS; rw [up_k (by decide), up_i (by decide), up_i (by decide), up_i (by decide), up_s]
    · subst hmS; rw [up_k (by decide), up_i (by decide), up_i (by decide), up_s]
    · subst hmS; rw [up_k (by decide), up_i (by decide), up_s]
  rcases h with ⟨e, g⟩ | ⟨p1, q, x, g, g2, e⟩
  · refine cm_oneLine g hP (by omega) (by omega) (fun _ m2 k6 k0 kF => ⟨rfl, ?_⟩) fun q hq => by simp at hq
    exact sg_X12_readText_31 _ _ _ ⟨fun _ => sg_X12_readText_64 _ _ _ ⟨fun _ => ⟨fun c4 => by omega, fun _ => by rw [k6]; exact ⟨trivial, h1 (Or.inl e) m2 (FrY_trans hF kF)⟩⟩, fun c4 => by omega⟩, fun c4 => by omega⟩
  · have hf := RdN_f g hn0
    refine cm_oneLine g hP (by omega) (by omega) (fun z => by simp at z) fun q' hq m2 hL => ⟨rfl, ?_⟩
    have hq := Option.some.inj hq
    subst hq
    have hX := TxM_ln (ls := []) (m0 := mS) hP s18 s21 (by simp) trivial (fun q hq => by simp at hq) FrY_refl hL ⟨hf.1, hf.2.1, hf.2.2 q rfl⟩
    refine cm_rdL (by omega) _ _ _ _ g2 m2 _ hX (fun c m3 h3 => ⟨trivial, h1 ?_ m3 (FrY_trans hF h3)⟩) fun y hy c m3 h3 => ?_
    · rcases c with c | c
      · left; rw [e, c]; rfl
      · exact Or.inr c
    · subst hy
      have h3 : TxM T n mS m3 (q :: y) p2 := h3
      obtain ⟨hP3, ⟨x18, x21, x2⟩, xB, xO, xF⟩ := h3
      have hz := hP3.2.2.2.2
      have e18 : (upM m3 12 0 14 0) 12 0 18 = lenL (q :: y) := by rw [up_i (by decide)]; exact x18
      refine cm_cpA (M := upM m3 12 0 14 0) e18 (by omega) (fun mA hA => ?_) (lenL (q :: y)) 0 _ (by omega) (by omega) ⟨fun x c1 c2 => by omega, fun k j x c1 => rfl⟩
      obtain ⟨A1, A2⟩ := hA
      have e21 : (upM mA 1321 0 0 (mA 1321 0 1)) 1321 0 0 = (q :: y).length := by
        rw [up_s, A2 _ _ _ (by omega), up_k (by decide)]; exact x21
      refine cm_cpB (M := upM mA 1321 0 0 (mA 1321 0 1)) e21 (by omega) (fun mB hB => ⟨trivial, h2 (q :: y) e c mB ?_ ?_ ?_ ?_ ?_ xO⟩) (q :: y).length 0 _ (by omega) (by omega) ⟨fun x c1 c2 => by omega, fun k j x c1 => rfl⟩
      · intro k j i c1 c2
        have k1 : k ≠ 1319 := fun z => c2 (by subst z; decide)
        have k2 : k ≠ 1320 := fun z => c2 (by subst z; decide)
        have k3 : k ≠ 1321 := fun z => c2 (by subst z; decide)
        have k4 : k ≠ 1322 := fun z => c2 (by subst z; decide)
        have k5 : k ≠ 1323 := fun z => c2 (by subst z; decide)
        rw [hB.2 k j i (by omega), up_k k3, A2 k j i (by omega)]
        have e3 : (upM m3 12 0 14 0) k j i = m3 k j i := by
          by_cases k6 : k = 12
          · subst k6
            have : i ≠ 14 := fun z => c1 ⟨rfl, by omega⟩
            unfold upM
            simp [this]
          · exact up_k k6
        rw [e3]
        exact (xF k j i (by omega) (by omega) (by omega) (by omega)).trans (hF k j i (by omega) (by omega) (by omega) (by omega))
      · rw [hB.2 _ _ _ (by omega), up_k (by decide), A2 _ _ _ (by omega), up_s]
      · omega
      · rw [hB.2 _ _ _ (by omega), e21]; omega
      · have eB2 : enB (upM m3 12 0 14 0) 0 0 (q :: y) := enB_cg (fun i _ _ => ⟨up_k (by decide), up_k (by decide)⟩) (fun i _ _ => ⟨up_k (by decide), up_k (by decide)⟩) xB
        refine enN_cp eB2 (by omega) (by omega) (by omega) (by omega) ?_ (fun i c1 c2 => ?_) fun i c1 c2 => ?_
        · rw [hB.2 _ _ _ (by omega), e21]; omega
        · have q := hB.1 i c1 (by omega)
          exact ⟨by rw [q.1, up_k (by decide), A2 _ _ _ (by omega)], by rw [q.2, up_k (by decide), A2 _ _ _ (by omega)]⟩
        · have q := A1 i c1 (by omega)
          rw [hB.2 _ _ _ (by omega), hB.2 _ _ _ (by omega), up_k (by decide), up_k (by decide)]
          exact q
end
