/-! the reference's raid -/
def HalfM (m : AMem) (p : StR) (L : Option LnL) : Prop := m 12 0 1 = p 10 ∧ (∀ i : Int, 0 ≤ i → i < p 10 → m 1304 0 i = p i) ∧ (m 1306 0 0 = p 14 ∧ m 1306 0 1 = p 12 ∧ m 1306 0 2 = p 13 ∧ m 1306 0 4 = p 15) ∧ LawM m L
def RepM (m : AMem) (p s : StR) : Prop := (∀ i : Int, 0 ≤ i → i < p 10 → m 1327 0 i = s i ∧ m 1328 0 i = s (10 + i)) ∧ m 12 0 36 = p 11 ∧ (m 12 0 29 = s 20 ∧ m 12 0 30 = s 21 ∧ m 12 0 32 = s 26 ∧ m 12 0 33 = s 24 ∧ m 12 0 34 = s 23 ∧ m 12 0 35 = s 25)
def wMo : List Nat := [5029, 5030, 5031, 5032, 5033, 5034, 5035, 1327, 1328, 1324, 1325]
theorem LawM_fr {W : List Nat} {m m2 : AMem} {L : Option LnL} (h : FrM W m m2) (h2 : ∀ c ∈ [5026, 1319, 1320, 1321, 1322, 1323], c ∉ W) (hL : LawM m L) : LawM m2 L := by
  have e1 : m2 12 0 26 = m 12 0 26 := h _ _ _ (h2 _ (by decide))
  have e2 : m2 1321 0 = m 1321 0 := FrM_f h (by decide) (h2 _ (by decide))
  have e3 : m2 1319 0 = m 1319 0 := FrM_f h (by decide) (h2 _ (by decide))
  have e4 : m2 1320 0 = m 1320 0 := FrM_f h (by decide) (h2 _ (by decide))
  have e5 : m2 1322 0 = m 1322 0 := FrM_f h (by decide) (h2 _ (by decide))
  have e6 : m2 1323 0 = m 1323 0 := FrM_f h (by decide) (h2 _ (by decide))
  have en : ∀ {ls : LnL} {y x : Int}, enN m y x ls → enN m2 y x ls := by
    intro ls
    induction ls with
    | nil => intro y x h; show m2 1321 0 0 = y; rw [e2]; exact h
    | cons p r ih =>
      intro y x h
      obtain ⟨t, b⟩ := p
      obtain ⟨h1, h2, h3, h4⟩ := h
      exact ⟨by rw [e5]; exact h1, by rw [e6]; exact h2, by rw [e3, e4]; exact h3, ih h4⟩
  cases L with
  | none => show m2 12 0 26 = 0; rw [e1]; exact hL
  | some ls =>
    obtain ⟨a1, a2, a3, a4, a5⟩ := hL
    exact ⟨by rw [e1]; exact a1, a2, by rw [e2]; exact a3, en a4, a5⟩
theorem HalfM_fr {W : List Nat} {m m2 : AMem} {p : StR} {L : Option LnL} (h : FrM W m m2) (h2 : ∀ c ∈ [5001, 1304, 1306, 5026, 1319, 1320, 1321, 1322, 1323], c ∉ W) (hL : HalfM m p L) : HalfM m2 p L := by
  obtain ⟨a1, a2, a3, a4⟩ := hL
  have e6 : m2 1306 0 = m 1306 0 := FrM_f h (by decide) (h2 _ (by decide))
  refine ⟨?_, fun i g0 g1 => ?_, by rw [e6]; exact a3, LawM_fr h (fun c hc => h2 c ?_) a4⟩
  · rw [h 12 0 1 (h2 _ (by decide))]; exact a1
  · rw [FrM_n h (by decide) (h2 _ (by decide))]; exact a2 i g0 g1
  · simp at hc ⊢; omega
theorem HalfM_S {m m2 : AMem} {p : StR} {L : Option LnL} (h : FrM wMo m m2) (hL : HalfM m p L) : HalfM m2 p L := HalfM_fr h (by decide) hL
theorem RepM_fr {W : List Nat} {m m2 : AMem} {p s : StR} (h : FrM W m m2) (h2 : ∀ c ∈ [1327, 1328, 5036, 5029, 5030, 5032, 5033, 5034, 5035], c ∉ W) (hR : RepM m p s) : RepM m2 p s := by
  have e1 : m2 1327 0 = m 1327 0 := FrM_f h (by decide) (h2 _ (by decide))
  have e2 : m2 1328 0 = m 1328 0 := FrM_f h (by decide) (h2 _ (by decide))
  have f1 : m2 12 0 36 = m 12 0 36 := h _ _ _ (h2 _ (by decide))
  have f2 : m2 12 0 29 = m 12 0 29 := h _ _ _ (h2 _ (by decide))
  have f3 : m2 12 0 30 = m 12 0 30 := h _ _ _ (h2 _ (by decide))
  have f4 : m2 12 0 32 = m 12 0 32 := h _ _ _ (h2 _ (by decide))
  have f5 : m2 12 0 33 = m 12 0 33 := h _ _ _ (h2 _ (by decide))
  have f6 : m2 12 0 34 = m 12 0 34 := h _ _ _ (h2 _ (by decide))
  have f7 : m2 12 0 35 = m 12 0 35 := h _ _ _ (h2 _ (by decide))
  unfold RepM
  rw [e1, e2, f1, f2, f3, f4, f5, f6, f7]
  exact hR
theorem RepM_q {m m2 : AMem} {p s : StR} (h : FrM [1324, 1325] m m2) (hR : RepM m p s) : RepM m2 p s := RepM_fr h (by decide) hR
theorem RepM_u {m : AMem} {p s : StR} {q x v : Int} (hn : p 10 ≤ 7) (hq : (q, x) ∈ [((29 : Int), (20 : Int)), (30, 21), (32, 26), (33, 24), (34, 23), (35, 25)]) (hR : RepM m p s) : RepM (upM m 12 0 q v) p (upS s x v) := by
  obtain ⟨a1, a2, a3⟩ := hR
  have hx : 20 ≤ x ∧ x ≤ 27 := by
    simp at hq
    omega
  refine ⟨fun i g0 g1 => ?_, ?_, ?_⟩
  · rw [up_k (by decide), up_k (by decide), upS_n (by omega), upS_n (by omega)]
    exact a1 i g0 g1
  · simp at hq
    rcases hq with ⟨rfl, rfl⟩ | ⟨rfl, rfl⟩ | ⟨rfl, rfl⟩ | ⟨rfl, rfl⟩ | ⟨rfl, rfl⟩ | ⟨rfl, rfl⟩ <;> simpa [upM, upS] using a2
  · simp at hq
    rcases hq with ⟨rfl, rfl⟩ | ⟨rfl, rfl⟩ | ⟨rfl, rfl⟩ | ⟨rfl, rfl⟩ | ⟨rfl, rfl⟩ | ⟨rfl, rfl⟩ <;> simp [upM, upS, a3]
theorem upS_id {s : StR} {x v : Int} (h : s x = v) : upS s x v = s := by
  funext k
  unfold upS
  split
  · rename_i e; rw [e]; exact h.symm
  · rfl
theorem RepM_o {m : AMem} {p s : StR} {x v : Int} (hn : p 10 ≤ 7) (hx : x = 22 ∨ x = 27 ∨ x = 28) (hR : RepM m p s) : RepM m p (upS s x v) := by
  obtain ⟨a1, a2, a3⟩ := hR
  refine ⟨fun i g0 g1 => ?_, a2, ?_⟩
  · rw [upS_n (by omega), upS_n (by omega)]; exact a1 i g0 g1
  · rcases hx with rfl | rfl | rfl <;> simpa [upS] using a3
theorem RepM_31 {m : AMem} {p s : StR} {v : Int} (hR : RepM m p s) : RepM (upM m 12 0 31 v) p s := by
  obtain ⟨a1, a2, a3⟩ := hR
  refine ⟨a1, ?_, ?_⟩
  · simpa [upM] using a2
  · simpa [upM] using a3
theorem RepM_r {m : AMem} {p s : StR} {i v : Int} (hn : p 10 ≤ 7) (h0 : 0 ≤ i) (h1 : i < p 10) (hR : RepM m p s) : RepM (upM m 1328 0 i v) p (upS s (10 + i) v) := by
  obtain ⟨a1, a2, a3⟩ := hR
  refine ⟨fun k g0 g1 => ?_, a2, ?_⟩
  · rw [up_k (by decide), up_eq, upS_n (by omega)]
    by_cases e : k = i
    · subst e
      rw [if_pos rfl, upS_s]
      exact ⟨(a1 k g0 g1).1, rfl⟩
    · rw [if_neg e, upS_n (by omega)]; exact a1 k g0 g1
  · rw [upS_n (by omega), upS_n (by omega), upS_n (by omega), upS_n (by omega), upS_n (by omega), upS_n (by omega)]
    exact a3
theorem RepM_c {m : AMem} {p s : StR} {i v : Int} (hn : p 10 ≤ 7) (h0 : 0 ≤ i) (h1 : i < p 10) (hR : RepM m p s) : RepM (upM m 1327 0 i v) p (upS s i v) := by
  obtain ⟨a1, a2, a3⟩ := hR
  refine ⟨fun k g0 g1 => ?_, a2, ?_⟩
  · rw [up_k (k := 1327) (k2 := 1328) (by decide), up_eq, upS_n (k := 10 + k) (by omega)]
    by_cases e : k = i
    · subst e
      rw [if_pos rfl, upS_s]
      exact ⟨rfl, (a1 k g0 g1).2⟩
    · rw [if_neg e, upS_n (by omega)]; exact a1 k g0 g1
  · rw [upS_n (by omega), upS_n (by omega), upS_n (by omega), upS_n (by omega), upS_n (by omega), upS_n (by omega)]
    exact a3
theorem abv_sw (a b : Int) : abv (a - b) = abv (b - a) := by
  unfold abv
  split <;> split <;> omega
section
variable {d : Nat} {p s : StR} {L : Option LnL} {m : AMem} {Q : Option AV → AMem → Prop}
theorem cm_apar {a b : Int} (h1 : -100 ≤ a ∧ a ≤ 100) (h2 : -100 ≤ b ∧ b ≤ 100) (h : Q (some (vi (abv (a - b)))) m) : MtX yX12_apart cX12_apart 2 (some .int) (d + 1) [vi a, vi b] m Q := by
  refine Y_met rfl 0 rfl (sg_X12_apart_0 _ _ _ _ ?_)
  rw [w32i (by omega) (by omega), w32i (by omega) (by omega)]
  refine ⟨fun c => ⟨trivial, ?_⟩, fun c => ⟨trivial, ?_⟩⟩
  · rw [show a - b = abv (a - b) by unfold abv; rw [if_pos (by omega)]]; exact h
  · rw [show b - a = abv (a - b) by unfold abv; rw [if_neg (by omega)]; omega]; exact h
theorem cm_isIn {i : Int} (hR : RepM m p s) (h : ∀ x : Int, (x = 1 ∧ tbt (p 11) i = 1 ∨ x = 0 ∧ ¬ tbt (p 11) i = 1) → Q (some (vi x)) m) : MtX yX12_isInNow cX12_isInNow 2 (some .boolean) (d + 1) [vr 12 0, vi i] m Q := by
  have e : an32 (shr32 (m 12 0 36) i) 1 = tbt (p 11) i := by rw [hR.2.1]; rfl
  refine Y_met rfl 0 rfl (sg_X12_isInNow_0 _ _ _ ?_)
  rw [e]
  exact ⟨fun c => ⟨Or.inl rfl, h 0 (Or.inr ⟨rfl, c⟩)⟩, fun c => ⟨Or.inr rfl, h 1 (Or.inl ⟨rfl, c⟩)⟩⟩
theorem cm_far {i : Int} (hp : OkPa p) (hR : RepM m p s) (hs : OkSt p s) (h0 : 0 ≤ i) (h1 : i < p 10) (h : Q (some (vi (farS s i))) m) : MtX yX12_farFrom cX12_farFrom 2 (some .int) (d + 2) [vr 12 0, vi i] m Q := by
  have hi := hs.1 i h0 h1
  have h20 := hs.2.1
  have h21 := hs.2.2.1
  have hn := hp.1
  refine Y_met rfl 0 rfl (sg_X12_farFrom_0 _ _ _ ⟨by omega, ?_⟩)
  rw [(hR.1 i h0 h1).1, hR.2.2.1]
  refine cm_apar (by omega) (by omega) ⟨_, rfl, by omega, ?_⟩
  rw [(hR.1 i h0 h1).2, hR.2.2.2.1]
  refine cm_apar (by omega) (by omega) ⟨_, rfl, trivial, ?_⟩
  have r1 := abv_rg (x := s i - s 20) (by omega) (by omega)
  have r2 := abv_rg (x := s (10 + i) - s 21) (by omega) (by omega)
  rw [w32i (by omega) (by omega)]
  exact h
theorem cm_neigh {i : Int} (hp : OkPa p) (hN : m 12 0 1 = p 10) (hR : RepM m p s) (hs : OkSt p s) (h0 : 0 ≤ i) (h1 : i < p 10) (h : Q (some (vi (nrS p s i (p 10).toNat))) m) : MtX yX12_besides cX12_besides 4 (some .int) (d + 2) [vr 12 0, vi i] m Q := by
  have hn := hp.1
  obtain ⟨hN1, hN2⟩ := N_le hp
  have key : ∀ (r k : Nat), k + r = (p 10).toNat → Y cX12_besides 4 RX12 (d + 2) none 4 [some (vr 12 0), some (vi i), some (vi (nrS p s i k)), some (vi k)] [] m (fun r mem2 => rk (some .int) r ∧ Q r mem2) := by
    intro r
    induction r with
    | zero =>
      intro k hk
      have e : k = (p 10).toNat := by omega
      refine sg_X12_besides_4 _ _ _ _ _ ⟨fun _ => ⟨trivial, by rw [e]; exact h⟩, fun c => by rw [hN] at c; omega⟩
    | succ r ih =>
      intro k hk
      have hi := hs.1 i h0 h1
      have hkk := hs.1 k (by omega) (by omega)
      have nx := ih (k + 1) (by omega)
      have r3 := nrS_rg (p := p) (s := s) (i := i) (n := k)
      have e1 : ((k + 1 : Nat) : Int) = (k : Int) + 1 := by omega
      rw [e1] at nx
      refine sg_X12_besides_4 _ _ _ _ _ ⟨fun c => by rw [hN] at c; omega, fun c => ?_⟩
      rw [w32i (z := (k : Int) + 1) (by omega) (by omega), w32i (z := nrS p s i k + 1) (by omega) (by omega)]
      refine ⟨fun c1 => ?_, fun c1 => cm_isIn hR fun x hx => ⟨x, rfl, fun c2 => ?_, fun c2 => ⟨by omega, by omega, ?_⟩⟩⟩
      · have e : nrS p s i (k + 1) = nrS p s i k := by
          rw [nrS_s, c1, if_neg]
          · omega
          · rintro ⟨-, z⟩
            rw [Int.sub_self, Int.sub_self] at z
            revert z
            decide
        rw [e] at nx
        exact nx
      · have e : nrS p s i (k + 1) = nrS p s i k := by
          rw [nrS_s]
          rw [if_neg (by omega)]; omega
        rw [e] at nx
        exact nx
      · rw [(hR.1 i h0 h1).1, (hR.1 k (by omega) (by omega)).1]
        refine cm_apar (by omega) (by omega) ⟨_, rfl, by omega, by omega, ?_⟩
        rw [(hR.1 i h0 h1).2, (hR.1 k (by omega) (by omega)).2]
        refine cm_apar (by omega) (by omega) ⟨_, rfl, ?_⟩
        rw [abv_sw (s i), abv_sw (s (10 + i))]
        have r1 := abv_rg (x := s k - s i) (by omega) (by omega)
        have r2 := abv_rg (x := s (10 + k) - s (10 + i)) (by omega) (by omega)
        rw [w32i (z := abv (s k - s i) + abv (s (10 + k) - s (10 + i))) (by omega) (by omega)]
        refine ⟨fun c3 => ?_, fun c3 => ?_⟩
        · have e : nrS p s i (k + 1) = nrS p s i k := by
            rw [nrS_s]
            rw [if_neg (by omega)]; omega
          rw [e] at nx
          exact nx
        · have e : nrS p s i (k + 1) = nrS p s i k + 1 := by
            rw [nrS_s]
            rw [if_pos ⟨by omega, c3⟩]
          rw [e] at nx
          exact nx
  exact Y_met rfl 2 rfl (sg_X12_besides_0 _ _ _ (key (p 10).toNat 0 (by omega)))
set_option maxHeartbeats 1000000 in
theorem cm_choice {i b : Int} (hp : OkPa p) (hH : HalfM m p L) (hR : RepM m p s) (hs : OkSt p s) (h0 : 0 ≤ i) (h1 : i < p 10) (h : ∀ m2, FrM [1324, 1325] m m2 → Q (some (vi (lwF L (faS p s i b)))) m2) : MtX yX12_actOf cX12_actOf 5 (some .int) (d + 4) [vr 12 0, vi i, vi b] m Q := by
  have hn := hp.1
  obtain ⟨b1, b2, b3, b4⟩ := hH
  refine Y_met rfl 2 rfl (sg_X12_actOf_0 _ _ _ _ (cm_far hp hR hs h0 h1 ⟨_, rfl, ?_⟩))
  cases L with
  | none =>
    have e : m 12 0 26 = 0 := b4
    have hf := h m (FrM_refl _ _)
    refine ⟨fun c => absurd e c, fun _ => ?_⟩
    rw [hR.2.2.2.1]
    unfold lwF faS at hf
    simp only [if_pos, Int.reduceEq, if_false] at hf
    exact ⟨fun c => ⟨fun c2 => ⟨trivial, by rw [if_neg (by omega), if_neg (by omega)] at hf; exact hf⟩, fun c2 => ⟨trivial, by rw [if_neg (by omega), if_pos (by omega)] at hf; exact hf⟩⟩, fun c => ⟨fun c2 => ⟨trivial, by rw [if_pos (by omega), if_neg (by omega)] at hf; exact hf⟩, fun c2 => ⟨trivial, by rw [if_pos (by omega), if_pos (by omega)] at hf; exact hf⟩⟩⟩
  | some ls =>
    obtain ⟨e1, e2, e3, e4, e5⟩ := b4
    refine ⟨fun _ => ⟨by decide, by decide, by decide, by omega, by decide, ?_⟩, fun c => absurd c e1⟩
    rw [hR.2.1, hR.2.2.2.1, b2 i h0 h1]
    refine cm_bitsOf hp.2.2.1 hp.2.2.2 ⟨_, rfl, by decide, ?_⟩
    have hF4 : FrM [1324, 1325] m (upM (upM (upM (upM (upM m 1324 0 0 (farS s i)) 1324 0 1 (s 21)) 1324 0 2 b) 1324 0 3 (p i)) 1324 0 4 (popB (p 11))) := FrM_uk (FrM_uk (FrM_uk (FrM_uk (FrM_uk (FrM_refl _ _) (by decide) (by decide)) (by decide) (by decide)) (by decide) (by decide)) (by decide) (by decide)) (by decide) (by decide)
    refine cm_neigh hp b1 (RepM_q hF4 hR) hs h0 h1 ⟨_, rfl, by decide, ?_⟩
    refine cm_gives (ls := ls) (fa := faS p s i b) e2 e3 ?_ ?_ e5 fun m2 hF => ⟨_, rfl, ?_⟩
    · intro k g0 g1
      have hk : k = 0 ∨ k = 1 ∨ k = 2 ∨ k = 3 ∨ k = 4 ∨ k = 5 := by omega
      rcases hk with rfl | rfl | rfl | rfl | rfl | rfl <;> simp [upM, faS]
    · have hL : LawM m (some ls) := ⟨e1, e2, e3, e4, e5⟩
      exact (LawM_fr (FrM_uk (i := 5) (v := nrS p s i (p 10).toNat) (j := 0) (k := 1324) hF4 (by decide) (by decide)) (by decide) hL).2.2.2.1
    · have hQ := h m2 (FrM_trans (FrM_uk (i := 5) (v := nrS p s i (p 10).toNat) (j := 0) (k := 1324) hF4 (by decide) (by decide)) (FrM_mono hF (by decide)))
      have e := lwF_rg (L := some ls) (fa := faS p s i b)
      unfold lwF at hQ e
      dsimp only at hQ e
      unfold abv at hQ e
      refine ⟨fun c => ⟨trivial, ?_⟩, fun c => ⟨trivial, ?_⟩⟩
      · rw [if_pos c] at hQ; exact hQ
      · rw [if_neg c] at hQ e
        rw [w32i (by omega) (by omega)]
        exact hQ
set_option maxHeartbeats 1000000 in
theorem cm_come {i : Int} (hp : OkPa p) (hR : RepM m p s) (hs : OkSt p s) (h0 : 0 ≤ i) (h1 : i < p 10) (h : ∀ m2, FrM [1327, 1328] m m2 → RepM m2 p (cnS s i) → Q none m2) : MtX yX12_comesNearer cX12_comesNearer 4 none (d + 1) [vr 12 0, vi i] m Q := by
  have hn := hp.1
  have hi := hs.1 i h0 h1
  have h20 := hs.2.1
  have h21 := hs.2.2.1
  have r0 := (hR.1 i h0 h1).1
  have r1 := (hR.1 i h0 h1).2
  have r4 := hR.2.2.1
  have r5 := hR.2.2.2.1
  have fr : ∀ c r, FrM [1327, 1328] m (upM (upM m 1327 0 i c) 1328 0 i r) := fun c r => FrM_uk (FrM_uk (FrM_refl _ _) (by decide) (by decide)) (by decide) (by decide)
  have key : ∀ c r, c = ncC s i → r = ncR s i → 0 ≤ r → Y cX12_comesNearer 4 RX12 (d + 1) none 65 [some (vr 12 0), some (vi i), some (vi c), some (vi r)] [] m (fun r mem2 => rk none r ∧ Q r mem2) := by
    intro c r hc0 hr0 hrr
    have hy : (1 ≤ r ∧ ¬ (c = s 20 ∧ r = s 21)) → cnS s i = upS (upS s i c) (10 + i) r := fun z => by subst hc0; subst hr0; exact if_pos z
    have hno : ¬ (1 ≤ r ∧ ¬ (c = s 20 ∧ r = s 21)) → cnS s i = s := fun z => by subst hc0; subst hr0; exact if_neg z
    clear hc0 hr0
    have yes : (1 ≤ r ∧ ¬ (c = s 20 ∧ r = s 21)) → Q none (upM (upM m 1327 0 i c) 1328 0 i r) := fun hc => h _ (fr c r) (by rw [hy hc]; exact RepM_r hn.2 h0 h1 (RepM_c hn.2 h0 h1 hR))
    have no : ¬ (1 ≤ r ∧ ¬ (c = s 20 ∧ r = s 21)) → Q none m := fun hc => h _ (FrM_refl _ _) (by rw [hno hc]; exact hR)
    refine sg_X12_comesNearer_65 _ _ _ _ _ ?_
    rw [r4, r5]
    exact ⟨fun c1 => ⟨trivial, no (by omega)⟩, fun c1 => ⟨fun c2 => ⟨by omega, by omega, trivial, yes (by omega)⟩, fun c2 => ⟨fun c3 => ⟨by omega, by omega, trivial, yes (by omega)⟩, fun c3 => ⟨trivial, no (by omega)⟩⟩⟩⟩
  have e1 : w32 (s i + 1) = s i + 1 := w32i (by omega) (by omega)
  have e2 : w32 (s i + -1) = s i - 1 := by rw [w32i (by omega) (by omega)]; omega
  have e3 : w32 (s (10 + i) + 1) = s (10 + i) + 1 := w32i (by omega) (by omega)
  have e4 : w32 (s (10 + i) + -1) = s (10 + i) - 1 := by rw [w32i (by omega) (by omega)]; omega
  refine Y_met rfl 2 rfl (sg_X12_comesNearer_0 _ _ _ ⟨by omega, by omega, ?_⟩)
  rw [r0, r1, r4, r5, e1, e2, e3, e4]
  refine ⟨fun c1 => ⟨fun c2 => ?_, fun c2 => ⟨fun c3 => ?_, fun c3 => ?_⟩⟩, fun c1 => ⟨fun c2 => ?_, fun c2 => ?_⟩⟩
  all_goals (refine key _ _ ?_ ?_ (by omega))
  all_goals (first | unfold ncC | unfold ncR)
  all_goals ((repeat' split) <;> omega)
set_option maxHeartbeats 1000000 in
theorem cm_acts {i b : Int} (hp : OkPa p) (hH : HalfM m p L) (hR : RepM m p s) (hs : OkSt p s) (h31 : m 12 0 31 = b) (h0 : 0 ≤ i) (h1 : i < p 10) (hin : tbt (p 11) i = 1) (h : ∀ m2, FrM [1324, 1325, 1327, 1328, 5035] m m2 → RepM m2 p (acS p L b s i) → Q none m2) : MtX yX12_actsNow cX12_actsNow 3 none (d + 5) [vr 12 0, vi i] m Q := by
  have hn := hp.1
  have hi := hs.1 i h0 h1
  refine Y_met rfl 1 rfl (sg_X12_actsNow_0 _ _ _ ?_)
  rw [h31]
  refine cm_choice hp hH hR hs h0 h1 fun m1 hF1 => ⟨_, rfl, ?_⟩
  have hR1 := RepM_q hF1 hR
  have hF1' : FrM [1324, 1325, 1327, 1328, 5035] m m1 := FrM_mono hF1 (by decide)
  generalize hx : lwF L (faS p s i b) = x at *
  have ex : acS p L b s i = (if x = 1 then cnS s i
     else if x = 2 then upS s (10 + i) (min 8 (s (10 + i) + 1))
     else if x = 3 ∧ 1 ≤ s 21 ∧ farS s i ≤ 1 then upS (upS s 25 (or_32 (s 25) (shl32 1 i))) 28 (s 28 + p i)
     else s) := by
    unfold acS
    rw [if_pos hin, hx]
  rw [ex] at h
  clear ex
  refine ⟨fun c1 => ?_, fun c1 => ?_⟩
  · rw [if_neg c1] at h
    refine sg_X12_actsNow_20 _ _ _ _ ⟨fun c2 => ?_, fun c2 => ⟨by omega, ?_⟩⟩
    · rw [if_neg c2] at h
      refine sg_X12_actsNow_46 _ _ _ _ ⟨fun c3 => ⟨trivial, ?_⟩, fun c3 => ?_⟩
      · rw [if_neg (fun z => c3 z.1)] at h
        exact h m1 hF1' hR1
      · refine cm_far hp hR1 hs h0 h1 ⟨_, rfl, fun c4 => ⟨trivial, ?_⟩, fun c4 => ⟨fun c5 => ⟨trivial, ?_⟩, fun c5 => ⟨trivial, ?_⟩⟩⟩
        · rw [if_neg (by omega)] at h
          exact h m1 hF1' hR1
        · rw [hR1.2.2.2.1] at c5
          rw [if_neg (by omega)] at h
          exact h m1 hF1' hR1
        · rw [hR1.2.2.2.1] at c5
          rw [if_pos (by omega)] at h
          rw [hR1.2.2.2.2.2.2.2]
          exact h _ (FrM_up hF1' (by decide)) (RepM_o hn.2 (by decide) (RepM_u (q := 35) (x := 25) hn.2 (by decide) hR1))
    · rw [if_pos c2] at h
      rw [(hR1.1 i h0 h1).2]
      refine ⟨fun c3 => ?_, fun c3 => ⟨by omega, by omega, ?_⟩⟩
      · refine sg_X12_actsNow_46 _ _ _ _ ⟨fun _ => ⟨trivial, h m1 hF1' ?_⟩, fun c4 => by omega⟩
        rw [show min 8 (s (10 + i) + 1) = s (10 + i) by omega, upS_id rfl]
        exact hR1
      · refine sg_X12_actsNow_46 _ _ _ _ ⟨fun _ => ⟨trivial, h _ (FrM_uk hF1' (by decide) (by decide)) ?_⟩, fun c4 => by omega⟩
        rw [show min 8 (s (10 + i) + 1) = s (10 + i) + 1 by omega, w32i (by omega) (by omega)]
        exact RepM_r hn.2 h0 h1 hR1
  · rw [if_pos c1] at h
    refine cm_come hp hR1 hs h0 h1 fun m2 hF2 hR2 => ⟨rfl, ?_⟩
    refine sg_X12_actsNow_20 _ _ _ _ ⟨fun _ => sg_X12_actsNow_46 _ _ _ _ ⟨fun _ => ⟨trivial, h m2 (FrM_trans hF1' (FrM_mono hF2 (by decide))) hR2⟩, fun c3 => by omega⟩, fun c2 => by omega⟩
theorem cm_moves {v : Int} (hp : OkPa p) (hs : OkSt p s) (hR : RepM m p s) (h : ∀ m2, FrM [5029, 5030] m m2 → RepM m2 p (mvR s v) → Q none m2) : MtX yX12_movesTo cX12_movesTo 2 none (d + 1) [vr 12 0, vi v] m Q := by
  have hn := hp.1
  have h20 := hs.2.1
  have h21 := hs.2.2.1
  have r4 := hR.2.2.1
  have r5 := hR.2.2.2.1
  have up : ∀ (q x w : Int), (q, x) ∈ [((29 : Int), (20 : Int)), (30, 21), (32, 26), (33, 24), (34, 23), (35, 25)] → cdc 12 q ∈ [5029, 5030] → mvR s v = upS s x w → Q none (upM m 12 0 q w) := fun q x w hq hc e => h _ (FrM_up (FrM_refl _ _) hc) (by rw [e]; exact RepM_u hn.2 hq hR)
  have no : mvR s v = s → Q none m := fun e => h _ (FrM_refl _ _) (by rw [e]; exact hR)
  have e1 : w32 (s 21 + 1) = s 21 + 1 := w32i (by omega) (by omega)
  have e2 : w32 (s 21 - 1) = s 21 - 1 := w32i (by omega) (by omega)
  have e3 : w32 (s 20 + 1) = s 20 + 1 := w32i (by omega) (by omega)
  have e4 : w32 (s 20 - 1) = s 20 - 1 := w32i (by omega) (by omega)
  refine Y_met rfl 0 rfl (sg_X12_movesTo_0 _ _ _ ?_)
  rw [r4, r5, e1, e2, e3, e4]
  refine ⟨fun c => ⟨fun c2 => ⟨trivial, no ?_⟩, fun c2 => ⟨trivial, up 30 21 _ (by decide) (by decide) ?_⟩⟩, fun c => ⟨fun c2 => ⟨trivial, no ?_⟩, fun c2 => ⟨trivial, up 30 21 _ (by decide) (by decide) ?_⟩⟩, fun c => ⟨fun c2 => ⟨trivial, no ?_⟩, fun c2 => ⟨trivial, up 29 20 _ (by decide) (by decide) ?_⟩⟩, fun c => ⟨fun c2 => ⟨trivial, no ?_⟩, fun c2 => ⟨trivial, up 29 20 _ (by decide) (by decide) ?_⟩⟩, fun c => ⟨trivial, no ?_⟩⟩ <;> unfold mvR <;> (repeat' split) <;> first | rfl | omega
theorem cm_strong {hb : Int} (hp : OkPa p) (hH : HalfM m p L) (h35 : m 12 0 35 = hb) (h : Q (some (vi (hsF p hb (p 10).toNat))) m) : MtX yX12_strongNow cX12_strongNow 3 (some .int) (d + 1) [vr 12 0] m Q := by
  obtain ⟨hN1, hN2⟩ := N_le hp
  have rg : ∀ k : Nat, (k : Int) ≤ p 10 → 0 ≤ hsF p hb k ∧ hsF p hb k ≤ 9 * k := by
    intro k
    induction k with
    | zero => intro _; exact ⟨Int.le_refl 0, Int.le_refl 0⟩
    | succ k ih =>
      intro hk
      have := ih (by omega)
      have := hp.2.1 k (by omega) (by omega)
      rw [hsF_s]
      split <;> omega
  have key : ∀ (r k : Nat), k + r = (p 10).toNat → Y cX12_strongNow 3 RX12 (d + 1) none 4 [some (vr 12 0), some (vi (hsF p hb k)), some (vi k)] [] m (fun r mem2 => rk (some .int) r ∧ Q r mem2) := by
    intro r
    induction r with
    | zero =>
      intro k hk
      have e : k = (p 10).toNat := by omega
      refine sg_X12_strongNow_4 _ _ _ _ ⟨fun _ => ⟨trivial, by rw [e]; exact h⟩, fun c => by rw [hH.1] at c; omega⟩
    | succ r ih =>
      intro k hk
      have nx := ih (k + 1) (by omega)
      have e1 : ((k + 1 : Nat) : Int) = (k : Int) + 1 := by omega
      rw [e1, hsF_s] at nx
      have g := rg k (by omega)
      have g2 := hp.2.1 k (by omega) (by omega)
      refine sg_X12_strongNow_4 _ _ _ _ ⟨fun c => by rw [hH.1] at c; omega, fun c => ?_⟩
      rw [h35, w32i (z := (k : Int) + 1) (by omega) (by omega), hH.2.1 k (by omega) (by omega), w32i (z := hsF p hb k + p k) (by omega) (by omega)]
      refine ⟨fun c2 => ?_, fun c2 => ⟨by omega, ?_⟩⟩
      · have c2 : ¬ tbt hb k = 1 := c2
        rw [if_neg c2, Int.add_zero] at nx; exact nx
      · have c2 : tbt hb k = 1 := c2
        rw [if_pos c2] at nx; exact nx
  exact Y_met rfl 2 rfl (sg_X12_strongNow_0 _ _ (key (p 10).toNat 0 (by omega)))
/-- a second of the reference: at the last one of his breath all is lost -/
def secM (p : StR) (L : Option LnL) (s : StR) (v : Int) : StR := if secS p L s v 26 = 0 ∧ secS p L s v 22 = p 14 then upS (secS p L s v) 26 3 else secS p L s v
set_option maxHeartbeats 1000000 in
theorem cm_second {v : Int} (hp : OkPa p) (hs : OkSt p s) (h22 : 0 ≤ s 22 ∧ s 22 ≤ 1000) (h26 : s 26 = 0) (hH : HalfM m p L) (hR : RepM m p s) (h31 : m 12 0 31 = s 22) (h : ∀ m2, FrM wMo m m2 → RepM m2 p (secM p L s v) → m2 12 0 31 = secM p L s v 22 → Q none m2) : MtX yX12_goSecond cX12_goSecond 4 none (d + 6) [vr 12 0, vi v] m Q := by
  have hn := hp.1
  obtain ⟨hN1, hN2⟩ := N_le hp
  have e22 : ∀ (q : Bool), (if secS p L s v 26 = 0 ∧ secS p L s v 22 = p 14 then upS (secS p L s v) 26 3 else secS p L s v) 22 = s 22 + 1 := by
    intro _
    split
    · rw [upS_n (by decide), secS_22 hp]
    · exact secS_22 hp
  have e22 : secM p L s v 22 = s 22 + 1 := e22 true
  -- behind all acts
  have fin : ∀ (m1 : AMem) (y : Int), FrM wMo m m1 → RepM m1 p (s3S p L s v) → m1 12 0 31 = s 22 → ¬ (s1S s v 21 = 0 ∧ 0 < s 21) → Y cX12_goSecond 4 RX12 (d + 6) none 121 [some (vr 12 0), some (vi v), some (vi y), some (vi (p 10))] [] m1 (fun r mem2 => rk none r ∧ Q r mem2) := by
    intro m1 y hF1 hR1 hb hc
    have hH1 := HalfM_S hF1 hH
    refine sg_X12_goSecond_121 _ _ _ _ _ ⟨fun _ => ?_, fun c => by rw [hH1.1] at c; omega⟩
    rw [hb, w32i (by omega) (by omega)]
    have hF2 : FrM wMo m (upM m1 12 0 31 (s 22 + 1)) := FrM_up hF1 (by decide)
    have hR2 := RepM_31 (v := s 22 + 1) hR1
    have hH2 := HalfM_S hF2 hH
    refine cm_strong hp hH2 hR2.2.2.2.2.2.2.2 ⟨_, rfl, by decide, ?_⟩
    have hhs := (alS_hs (L := L) (b := s 22) hp (okS_2 (v := v) hp hs) s2S_28 s2S_25 (n := (p 10).toNat) (by omega)).1
    have hhs : s3S p L s v 28 = hsF p (s3S p L s v 25) (p 10).toNat := hhs
    rw [← hhs, hH2.2.2.1.2.2.1, hH2.2.2.1.1, up_s]
    have s26 : s3S p L s v 26 = 0 := by rw [s3S_26 hp]; exact h26
    refine ⟨fun c => ⟨by decide, ?_⟩, fun c => ⟨trivial, ?_⟩⟩
    · have es : secS p L s v = upS (s3S p L s v) 27 (max (s3S p L s v 27) (s3S p L s v 28)) := by unfold secS; rw [if_neg hc, if_pos c]
      have s26' : secS p L s v 26 = 0 := by rw [es, upS_n (by decide)]; exact s26
      refine ⟨fun c2 => ⟨trivial, h _ hF2 ?_ ?_⟩, fun c2 => ⟨trivial, h _ (FrM_up hF2 (by decide)) ?_ ?_⟩⟩
      · unfold secM
        rw [if_neg (by rw [secS_22 hp]; omega), es]
        exact RepM_o hn.2 (by decide) hR2
      · rw [e22]; exact up_s
      · unfold secM
        rw [if_pos (by rw [secS_22 hp]; exact ⟨s26', c2⟩), es]
        exact RepM_u (q := 32) (x := 26) hn.2 (by decide) (RepM_o hn.2 (by decide) hR2)
      · rw [e22, up_i (by decide)]; exact up_s
    · have es : secS p L s v = upS (upS (s3S p L s v) 27 (max (s3S p L s v 27) (s3S p L s v 28))) 26 2 := by unfold secS; rw [if_neg hc, if_neg c]
      refine h _ (FrM_up hF2 (by decide)) ?_ ?_
      · unfold secM
        rw [if_neg (by rw [es, upS_s]; omega), es]
        exact RepM_u (q := 32) (x := 26) hn.2 (by decide) (RepM_o hn.2 (by decide) hR2)
      · rw [e22, up_i (by decide)]; exact up_s
  have acts : ∀ (r k : Nat) (m1 : AMem) (y : Int), k + r = (p 10).toNat → FrM wMo m m1 → RepM m1 p (alS p L (s 22) (s2S p s v) k) → m1 12 0 31 = s 22 → ¬ (s1S s v 21 = 0 ∧ 0 < s 21) → Y cX12_goSecond 4 RX12 (d + 6) none 121 [some (vr 12 0), some (vi v), some (vi y), some (vi k)] [] m1 (fun r mem2 => rk none r ∧ Q r mem2) := by
    intro r
    induction r with
    | zero =>
      intro k m1 y hk hF1 hR1 hb hc
      have e : k = (p 10).toNat := by omega
      rw [show (k : Int) = p 10 by omega]
      refine fin m1 y hF1 ?_ hb hc
      rw [e] at hR1
      exact hR1
    | succ r ih =>
      intro k m1 y hk hF1 hR1 hb hc
      have hH1 := HalfM_S hF1 hH
      have hs1 := okS_al (L := L) (b := s 22) hp (okS_2 (v := v) hp hs) (n := k) (by omega)
      refine sg_X12_goSecond_121 _ _ _ _ _ ⟨fun c => by rw [hH1.1] at c; omega, fun c => ?_⟩
      rw [w32i (z := (k : Int) + 1) (by omega) (by omega)]
      have e1 : ((k + 1 : Nat) : Int) = (k : Int) + 1 := by omega
      refine cm_isIn hR1 fun x hx => ⟨x, rfl, fun c2 => ?_, fun c2 => ?_⟩
      · have := ih (k + 1) m1 y (by omega) hF1 (by
          show RepM m1 p (acS p L (s 22) (alS p L (s 22) (s2S p s v) k) k)
          unfold acS
          rw [if_neg (by omega)]
          exact hR1) hb hc
        rwa [e1] at this
      · refine cm_acts hp hH1 hR1 hs1 hb (by omega) (by omega) (by omega) fun m2 hF2 hR2 => ⟨rfl, ?_⟩
        have := ih (k + 1) m2 y (by omega) (FrM_trans hF1 (FrM_mono hF2 (by decide))) hR2 (by rw [hF2 12 0 31 (by decide)]; exact hb) hc
        rwa [e1] at this
  have acts0 : ∀ (m1 : AMem) (y : Int), FrM wMo m m1 → RepM m1 p (s2S p s v) → m1 12 0 31 = s 22 → ¬ (s1S s v 21 = 0 ∧ 0 < s 21) → Y cX12_goSecond 4 RX12 (d + 6) none 121 [some (vr 12 0), some (vi v), some (vi y), some (vi 0)] [] m1 (fun r mem2 => rk none r ∧ Q r mem2) := fun m1 y hF hR hb hc => acts (p 10).toNat 0 m1 y (by omega) hF hR hb hc
  have hst := okS_t (w := max (s 23) (s1S s v 21)) (v := v) hp hs
  -- the touches
  have tou : ∀ (m1 : AMem) (y : Int), FrM wMo m m1 → RepM m1 p (upS (upS (s1S s v) 23 (max (s 23) (s1S s v 21))) 28 0) → m1 12 0 31 = s 22 → ¬ (s1S s v 21 = 0 ∧ 0 < s 21) → Y cX12_goSecond 4 RX12 (d + 6) none 63 [some (vr 12 0), some (vi v), some (vi y), some (vi 0)] [] m1 (fun r mem2 => rk none r ∧ Q r mem2) := by
    intro m1 y hF1 hR1 hb hc
    by_cases hrow : 1 ≤ s1S s v 21
    · have e2 : s2S p s v = toS p (upS (upS (s1S s v) 23 (max (s 23) (s1S s v 21))) 28 0) (p 10).toNat := by
        unfold s2S
        (try dsimp only)
        rw [if_pos hrow]
      rw [e2] at acts0
      generalize hT : upS (upS (s1S s v) 23 (max (s 23) (s1S s v 21))) 28 0 = T at *
      have hT21 : 1 ≤ T 21 := by rw [← hT, upS_n (by decide), upS_n (by decide)]; exact hrow
      have key : ∀ (r k : Nat) (m2 : AMem), k + r = (p 10).toNat → FrM wMo m m2 → RepM m2 p (toS p T k) → m2 12 0 31 = s 22 → Y cX12_goSecond 4 RX12 (d + 6) none 63 [some (vr 12 0), some (vi v), some (vi y), some (vi k)] [] m2 (fun r mem2 => rk none r ∧ Q r mem2) := by
        intro r
        induction r with
        | zero =>
          intro k m2 hk hF2 hR2 hb2
          have hH2 := HalfM_S hF2 hH
          have e : k = (p 10).toNat := by omega
          refine sg_X12_goSecond_63 _ _ _ _ _ ⟨fun _ => acts0 m2 y hF2 (by rw [← e]; exact hR2) hb2 hc, fun c => by rw [hH2.1] at c; omega⟩
        | succ r ih =>
          intro k m2 hk hF2 hR2 hb2
          have hH2 := HalfM_S hF2 hH
          have hs2 := okS_to hp hst (n := k) (by omega)
          have e1 : ((k + 1 : Nat) : Int) = (k : Int) + 1 := by omega
          have e21 : m2 12 0 30 = T 21 := by rw [hR2.2.2.2.1, toS_k (by decide)]
          refine sg_X12_goSecond_63 _ _ _ _ _ ⟨fun c => by rw [hH2.1] at c; omega, fun c => ?_⟩
          rw [w32i (z := (k : Int) + 1) (by omega) (by omega)]
          refine cm_isIn hR2 fun x hx => ⟨x, rfl, fun c2 => ?_, fun c2 => ⟨fun c3 => by omega, fun c3 => ?_⟩⟩
          · have := ih (k + 1) m2 (by omega) hF2 (by rw [toS_s, if_neg (by omega)]; exact hR2) hb2
            rwa [e1] at this
          · refine cm_far hp hR2 hs2 (by omega) (by omega) ⟨_, rfl, by decide, ?_⟩
            rw [hH2.2.2.1.2.1]
            refine ⟨fun c4 => ?_, fun c4 => ?_⟩
            · have := ih (k + 1) m2 (by omega) hF2 (by rw [toS_s, if_neg (by omega)]; exact hR2) hb2
              rwa [e1] at this
            · rw [hR2.2.2.2.2.2.1]
              have := ih (k + 1) (upM m2 12 0 33 (or_32 (toS p T k 24) (shl32 1 k))) (by omega) (FrM_up hF2 (by decide)) (by rw [toS_s, if_pos (by omega)]; exact RepM_u (q := 33) (x := 24) hn.2 (by decide) hR2) (by rw [up_i (by decide)]; exact hb2)
              rwa [e1] at this
      exact key (p 10).toNat 0 m1 (by omega) hF1 hR1 hb
    · have e2 : s2S p s v = upS (upS (s1S s v) 23 (max (s 23) (s1S s v 21))) 28 0 := by
        unfold s2S
        (try dsimp only)
        rw [if_neg hrow]
      rw [e2] at acts0
      have hH1 := HalfM_S hF1 hH
      have e21 : m1 12 0 30 = s1S s v 21 := by rw [hR1.2.2.2.1, upS_n (by decide), upS_n (by decide)]
      have key : ∀ (r k : Nat), k + r = (p 10).toNat → Y cX12_goSecond 4 RX12 (d + 6) none 63 [some (vr 12 0), some (vi v), some (vi y), some (vi k)] [] m1 (fun r mem2 => rk none r ∧ Q r mem2) := by
        intro r
        induction r with
        | zero =>
          intro k hk
          refine sg_X12_goSecond_63 _ _ _ _ _ ⟨fun _ => acts0 m1 y hF1 hR1 hb hc, fun c => by rw [hH1.1] at c; omega⟩
        | succ r ih =>
          intro k hk
          have e1 : ((k + 1 : Nat) : Int) = (k : Int) + 1 := by omega
          have nx := ih (k + 1) (by omega)
          rw [e1] at nx
          refine sg_X12_goSecond_63 _ _ _ _ _ ⟨fun c => by rw [hH1.1] at c; omega, fun c => ?_⟩
          rw [w32i (z := (k : Int) + 1) (by omega) (by omega)]
          exact cm_isIn hR1 fun x hx => ⟨x, rfl, fun c2 => nx, fun c2 => ⟨fun c3 => nx, fun c3 => by omega⟩⟩
      exact key (p 10).toNat 0 (by omega)
  refine Y_met rfl 2 rfl (sg_X12_goSecond_0 _ _ _ ?_)
  rw [hR.2.2.2.1]
  refine cm_moves hp hs hR fun m1 hF1 hR1 => ⟨rfl, ?_⟩
  have hF1' : FrM wMo m m1 := FrM_mono hF1 (by decide)
  have hb1 : m1 12 0 31 = s 22 := by rw [hF1 12 0 31 (by decide)]; exact h31
  have hR1' : RepM (upM m1 12 0 35 0) p (s1S s v) := RepM_u (q := 35) (x := 25) hn.2 (by decide) (RepM_o hn.2 (by decide) hR1)
  have e21 : m1 12 0 30 = s1S s v 21 := by rw [hR1.2.2.2.1, s1S_k (by decide) (by decide)]
  have e34 : m1 12 0 34 = s 23 := by rw [hR1.2.2.2.2.2.2.1, mvR_k (by decide) (by decide)]
  rw [e21, e34, hb1]
  have go : ∀ y, ¬ (s1S s v 21 = 0 ∧ 0 < s 21) → ((s1S s v 21 ≤ s 23 → Y cX12_goSecond 4 RX12 (d + 6) none 63 [some (vr 12 0), some (vi v), some (vi y), some (vi 0)] [] (upM m1 12 0 35 0) (fun r mem2 => rk none r ∧ Q r mem2)) ∧ (¬ s1S s v 21 ≤ s 23 → Y cX12_goSecond 4 RX12 (d + 6) none 63 [some (vr 12 0), some (vi v), some (vi y), some (vi 0)] [] (upM (upM m1 12 0 35 0) 12 0 34 (s1S s v 21)) (fun r mem2 => rk none r ∧ Q r mem2))) := by
    intro y hc
    refine ⟨fun c => tou _ y (FrM_up hF1' (by decide)) (RepM_o hn.2 (by decide) ?_) (by rw [up_i (by decide)]; exact hb1) hc, fun c => tou _ y (FrM_up (FrM_up hF1' (by decide)) (by decide)) (RepM_o hn.2 (by decide) ?_) (by rw [up_i (by decide), up_i (by decide)]; exact hb1) hc⟩
    · rw [show max (s 23) (s1S s v 21) = s 23 by omega, upS_id (by rw [s1S_k (by decide) (by decide), mvR_k (by decide) (by decide)])]
      exact hR1'
    · rw [show max (s 23) (s1S s v 21) = s1S s v 21 by omega]
      exact RepM_u (q := 34) (x := 23) hn.2 (by decide) hR1'
  refine ⟨fun c => go _ (by omega), fun c => ⟨fun c2 => go _ (by omega), fun c2 => ⟨trivial, ?_⟩⟩⟩
  have es : secS p L s v = upS (s1S s v) 26 1 := by unfold secS; rw [if_pos ⟨c, by omega⟩]
  refine h _ (FrM_up (FrM_up (FrM_up hF1' (by decide)) (by decide)) (by decide)) ?_ ?_
  · unfold secM
    rw [if_neg (by rw [es, upS_s]; omega), es]
    exact RepM_31 (RepM_u (q := 32) (x := 26) hn.2 (by decide) hR1')
  · rw [e22, up_s, w32i (by omega) (by omega)]
end
