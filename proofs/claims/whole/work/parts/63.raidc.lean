/-! the class's own raid -/
def HalfC (m : AMem) (p : StR) (L : Option LnL) : Prop := m 2 0 5 = p 10 ∧ (∀ i : Int, 0 ≤ i → i < p 10 → m 302 0 i = p i) ∧ m 303 0 5 = p 12 ∧ m 303 0 8 = p 15 ∧ LawC m L
def RepC (m : AMem) (j : Nat) (p s : StR) : Prop := (∀ i : Int, 0 ≤ i → i < p 10 → m 800 j i = s i ∧ m 801 j i = s (10 + i)) ∧ (m 7 j 3 = p 11 ∧ m 7 j 6 = p 14 ∧ m 7 j 7 = p 13) ∧ (m 7 j 4 = s 20 ∧ m 7 j 5 = s 21 ∧ m 7 j 8 = s 22 ∧ m 7 j 9 = s 23 ∧ m 7 j 10 = s 24 ∧ m 7 j 11 = s 25 ∧ m 7 j 12 = s 27 ∧ m 7 j 13 = s 26)
def scK (k : Nat) : Bool := k == 7 || k == 800 || k == 801 || k == 802
/-- nothing but W was written, of scenes but the one j -/
def FrS (W : List Nat) (j : Nat) (m m2 : AMem) : Prop := ∀ k j2 i, (cdc k i ∉ W ∨ (scK k = true ∧ j2 ≠ j)) → m2 k j2 i = m k j2 i
theorem FrS_refl (W : List Nat) (j : Nat) (m : AMem) : FrS W j m m := fun _ _ _ _ => rfl
theorem FrS_trans {W : List Nat} {j : Nat} {m m2 m3 : AMem} (h : FrS W j m m2) (h2 : FrS W j m2 m3) : FrS W j m m3 := fun k j2 i hc => (h2 k j2 i hc).trans (h k j2 i hc)
theorem FrS_mono {W W2 : List Nat} {j : Nat} {m m2 : AMem} (h : FrS W j m m2) (hs : ∀ c ∈ W, c ∈ W2) : FrS W2 j m m2 := fun k j2 i hc => h k j2 i (hc.imp (fun a q => a (hs _ q)) id)
theorem FrS_u {W : List Nat} {m m2 : AMem} {k j : Nat} {i v : Int} (h : FrS W j m m2) (hk : k ≠ 12) (hc : k ∈ W) : FrS W j m (upM m2 k j i v) := by
  intro k2 j2 i2 h2
  unfold upM
  split
  · rename_i e1
    subst e1
    split
    · rename_i e2
      subst e2
      rcases h2 with h2 | ⟨-, h2⟩
      · unfold cdc at h2; rw [if_neg hk] at h2; exact absurd hc h2
      · exact absurd rfl h2
    · exact h _ _ _ h2
  · exact h _ _ _ h2
theorem FrS_ofM {W W2 : List Nat} {j : Nat} {m m2 : AMem} (h : FrM W m m2) (hs : ∀ c ∈ W, c ∈ W2) (hn : ∀ c ∈ W, scK c = false) : FrS W2 j m m2 := fun k j2 i hc => h k j2 i (fun q => by
  rcases hc with hc | ⟨hc, -⟩
  · exact hc (hs _ q)
  · have hk : k ≠ 12 := by intro e; subst e; cases hc
    unfold cdc at q
    rw [if_neg hk] at q
    rw [hn k q] at hc
    cases hc)
theorem FrS_M {W : List Nat} {j : Nat} {m m2 : AMem} (h : FrS W j m m2) : FrM W m m2 := fun k j2 i hc => h k j2 i (Or.inl hc)
theorem FrS_n {W : List Nat} {j : Nat} {m m2 : AMem} (h : FrS W j m m2) {k j2 : Nat} {i : Int} (hk : k ≠ 12) (hc : k ∉ W) : m2 k j2 i = m k j2 i := FrM_n (FrS_M h) hk hc
theorem FrS_f {W : List Nat} {j : Nat} {m m2 : AMem} (h : FrS W j m m2) {k j2 : Nat} (hk : k ≠ 12) (hc : k ∉ W) : m2 k j2 = m k j2 := FrM_f (FrS_M h) hk hc
def wSc : List Nat := [7, 800, 801, 802, 402]
theorem LawC_fr {W : List Nat} {m m2 : AMem} {L : Option LnL} (h : FrM W m m2) (h2 : 2 ∉ W) (h3 : 3 ∉ W) (h4 : 400 ∉ W) (h5 : 401 ∉ W) (hL : LawC m L) : LawC m2 L := by
  have e1 : m2 2 0 7 = m 2 0 7 := FrM_n h (by decide) h2
  have e2 : m2 3 (m 2 0 7).toNat = m 3 (m 2 0 7).toNat := FrM_f h (by decide) h3
  have e3 : m2 400 (m 2 0 7).toNat = m 400 (m 2 0 7).toNat := FrM_f h (by decide) h4
  have e4 : m2 401 (m 2 0 7).toNat = m 401 (m 2 0 7).toNat := FrM_f h (by decide) h5
  unfold LawC
  rw [e1, e2, e3, e4]
  exact hL
theorem HalfC_fr {W : List Nat} {m m2 : AMem} {p : StR} {L : Option LnL} (h : FrM W m m2) (h2 : ∀ c ∈ [2, 3, 302, 303, 400, 401], c ∉ W) (hL : HalfC m p L) : HalfC m2 p L := by
  obtain ⟨a1, a2, a3, a4, a5⟩ := hL
  refine ⟨?_, fun i g0 g1 => ?_, ?_, ?_, LawC_fr h (h2 _ (by decide)) (h2 _ (by decide)) (h2 _ (by decide)) (h2 _ (by decide)) a5⟩
  · rw [FrM_n h (by decide) (h2 _ (by decide))]; exact a1
  · rw [FrM_n h (by decide) (h2 _ (by decide))]; exact a2 i g0 g1
  · rw [FrM_n h (by decide) (h2 _ (by decide))]; exact a3
  · rw [FrM_n h (by decide) (h2 _ (by decide))]; exact a4
theorem HalfC_S {j : Nat} {m m2 : AMem} {p : StR} {L : Option LnL} (h : FrS wSc j m m2) (hL : HalfC m p L) : HalfC m2 p L := HalfC_fr (FrS_M h) (by decide) hL
theorem RepC_fr {m m2 : AMem} {j : Nat} {p s : StR} (h : ∀ k i, (k = 7 ∨ k = 800 ∨ k = 801) → m2 k j i = m k j i) (hR : RepC m j p s) : RepC m2 j p s := by
  have e1 : ∀ i, m2 7 j i = m 7 j i := fun i => h _ i (Or.inl rfl)
  have e2 : ∀ i, m2 800 j i = m 800 j i := fun i => h _ i (Or.inr (Or.inl rfl))
  have e3 : ∀ i, m2 801 j i = m 801 j i := fun i => h _ i (Or.inr (Or.inr rfl))
  unfold RepC
  simp only [e1, e2, e3]
  exact hR
theorem RepC_q {m m2 : AMem} {j : Nat} {p s : StR} (h : FrS [802, 402] j m m2) (hR : RepC m j p s) : RepC m2 j p s := RepC_fr (fun k i hk => by rcases hk with rfl | rfl | rfl <;> exact FrS_n h (by decide) (by decide)) hR
theorem RepC_u {m : AMem} {j : Nat} {p s : StR} {q x v : Int} (hn : p 10 ≤ 7) (hq : (q, x) ∈ [((4 : Int), (20 : Int)), (5, 21), (8, 22), (9, 23), (10, 24), (11, 25), (12, 27), (13, 26)]) (hR : RepC m j p s) : RepC (upM m 7 j q v) j p (upS s x v) := by
  obtain ⟨a1, a2, a3⟩ := hR
  have hx : 20 ≤ x ∧ x ≤ 27 := by
    simp at hq
    omega
  refine ⟨fun i g0 g1 => ?_, ?_, ?_⟩
  · rw [up_k (by decide), up_k (by decide), upS_n (by omega), upS_n (by omega)]
    exact a1 i g0 g1
  · simp at hq
    rcases hq with ⟨rfl, rfl⟩ | ⟨rfl, rfl⟩ | ⟨rfl, rfl⟩ | ⟨rfl, rfl⟩ | ⟨rfl, rfl⟩ | ⟨rfl, rfl⟩ | ⟨rfl, rfl⟩ | ⟨rfl, rfl⟩ <;> simpa [upM, upS] using a2
  · simp at hq
    rcases hq with ⟨rfl, rfl⟩ | ⟨rfl, rfl⟩ | ⟨rfl, rfl⟩ | ⟨rfl, rfl⟩ | ⟨rfl, rfl⟩ | ⟨rfl, rfl⟩ | ⟨rfl, rfl⟩ | ⟨rfl, rfl⟩ <;> simp [upM, upS, a3]
theorem RepC_28 {m : AMem} {j : Nat} {p s : StR} {v : Int} (hn : p 10 ≤ 7) (hR : RepC m j p s) : RepC m j p (upS s 28 v) := by
  obtain ⟨a1, a2, a3⟩ := hR
  refine ⟨fun i g0 g1 => ?_, a2, ?_⟩
  · rw [upS_n (by omega), upS_n (by omega)]; exact a1 i g0 g1
  · simpa [upS] using a3
theorem RepC_r {m : AMem} {j : Nat} {p s : StR} {i v : Int} (hn : p 10 ≤ 7) (h0 : 0 ≤ i) (h1 : i < p 10) (hR : RepC m j p s) : RepC (upM m 801 j i v) j p (upS s (10 + i) v) := by
  obtain ⟨a1, a2, a3⟩ := hR
  refine ⟨fun k g0 g1 => ?_, a2, ?_⟩
  · rw [up_k (by decide), up_eq, upS_n (by omega)]
    by_cases e : k = i
    · subst e
      rw [if_pos rfl, upS_s]
      exact ⟨(a1 k g0 g1).1, rfl⟩
    · rw [if_neg e, upS_n (by omega)]; exact a1 k g0 g1
  · rw [upS_n (by omega), upS_n (by omega), upS_n (by omega), upS_n (by omega), upS_n (by omega), upS_n (by omega), upS_n (by omega), upS_n (by omega)]
    exact a3
theorem RepC_c {m : AMem} {j : Nat} {p s : StR} {i v : Int} (hn : p 10 ≤ 7) (h0 : 0 ≤ i) (h1 : i < p 10) (hR : RepC m j p s) : RepC (upM m 800 j i v) j p (upS s i v) := by
  obtain ⟨a1, a2, a3⟩ := hR
  refine ⟨fun k g0 g1 => ?_, a2, ?_⟩
  · rw [up_k (k := 800) (k2 := 801) (by decide), up_eq, upS_n (k := 10 + k) (by omega)]
    by_cases e : k = i
    · subst e
      rw [if_pos rfl, upS_s]
      exact ⟨rfl, (a1 k g0 g1).2⟩
    · rw [if_neg e, upS_n (by omega)]; exact a1 k g0 g1
  · rw [upS_n (by omega), upS_n (by omega), upS_n (by omega), upS_n (by omega), upS_n (by omega), upS_n (by omega), upS_n (by omega), upS_n (by omega)]
    exact a3
theorem ab_w {x : Int} (h : -1000 ≤ x) (h2 : x ≤ 1000) : ab32 (w32 x) = abv x := by
  rw [w32i (by omega) (by omega)]
  unfold ab32 abv
  split
  · rfl
  · exact w32i (by omega) (by omega)
theorem abv_rg {x : Int} (h : -1000 ≤ x) (h2 : x ≤ 1000) : 0 ≤ abv x ∧ abv x ≤ 1000 := by
  unfold abv
  split <;> omega
section
variable {d j : Nat} {p s : StR} {L : Option LnL} {m : AMem} {Q : Option AV → AMem → Prop}
theorem cc_isIn {i : Int} (hR : RepC m j p s) (h : ∀ x : Int, (x = 1 ∧ tbt (p 11) i = 1 ∨ x = 0 ∧ ¬ tbt (p 11) i = 1) → Q (some (vi x)) m) : MtX yX7_isInside cX7_isInside 2 (some .boolean) (d + 1) [vr 7 j, vi i] m Q := by
  have e : an32 (shr32 (m 7 j 3) i) 1 = tbt (p 11) i := by rw [hR.2.1.1]; rfl
  refine Y_met rfl 0 rfl (sg_X7_isInside_0 _ _ _ _ ?_)
  rw [e]
  exact ⟨fun c => ⟨Or.inl rfl, h 0 (Or.inr ⟨rfl, c⟩)⟩, fun c => ⟨Or.inr rfl, h 1 (Or.inl ⟨rfl, c⟩)⟩⟩
theorem cc_far {i : Int} (hp : OkPa p) (hR : RepC m j p s) (hs : OkSt p s) (h0 : 0 ≤ i) (h1 : i < p 10) (h : Q (some (vi (farS s i))) m) : MtX yX7_farFromRaider cX7_farFromRaider 2 (some .int) (d + 1) [vr 7 j, vi i] m Q := by
  have hi := hs.1 i h0 h1
  have h20 := hs.2.1
  have h21 := hs.2.2.1
  have hn := hp.1
  refine Y_met rfl 0 rfl (sg_X7_farFromRaider_0 _ _ _ _ ⟨by omega, by omega, trivial, ?_⟩)
  rw [(hR.1 i h0 h1).1, (hR.1 i h0 h1).2, hR.2.2.1, hR.2.2.2.1, ab_w (by omega) (by omega), ab_w (by omega) (by omega)]
  have r1 := abv_rg (x := s i - s 20) (by omega) (by omega)
  have r2 := abv_rg (x := s (10 + i) - s 21) (by omega) (by omega)
  rw [w32i (by omega) (by omega)]
  exact h
theorem cc_neigh {i : Int} (hp : OkPa p) (hR : RepC m j p s) (hs : OkSt p s) (h0 : 0 ≤ i) (h1 : i < p 10) (h : Q (some (vi (nrS p s i (p 10).toNat))) m) : MtX yX7_neighbours cX7_neighbours 6 (some .int) (d + 2) [vr 7 j, vi i, vi (p 10)] m Q := by
  have hn := hp.1
  obtain ⟨hN1, hN2⟩ := N_le hp
  have key : ∀ (r k : Nat), k + r = (p 10).toNat → Y cX7_neighbours 6 RX7 (d + 2) none 5 [some (vr 7 j), some (vi i), some (vi (p 10)), some (vi (nrS p s i k)), some (vi k), none] [] m (fun r mem2 => rk (some .int) r ∧ Q r mem2) := by
    intro r
    induction r with
    | zero =>
      intro k hk
      have e : k = (p 10).toNat := by omega
      refine sg_X7_neighbours_5 _ _ _ _ _ _ _ ⟨fun _ => ⟨trivial, by rw [e]; exact h⟩, fun c => by omega⟩
    | succ r ih =>
      intro k hk
      have hi := hs.1 i h0 h1
      have hkk := hs.1 k (by omega) (by omega)
      refine sg_X7_neighbours_5 _ _ _ _ _ _ _ ⟨fun c => by omega, fun c => ⟨by omega, by omega, by omega, by omega, ?_⟩⟩
      rw [(hR.1 i h0 h1).1, (hR.1 i h0 h1).2, (hR.1 k (by omega) (by omega)).1, (hR.1 k (by omega) (by omega)).2, ab_w (by omega) (by omega), ab_w (by omega) (by omega)]
      have r1 := abv_rg (x := s k - s i) (by omega) (by omega)
      have r2 := abv_rg (x := s (10 + k) - s (10 + i)) (by omega) (by omega)
      have r3 := nrS_rg (p := p) (s := s) (i := i) (n := k)
      rw [w32i (z := abv (s k - s i) + abv (s (10 + k) - s (10 + i))) (by omega) (by omega), w32i (z := (k : Int) + 1) (by omega) (by omega), w32i (z := nrS p s i k + 1) (by omega) (by omega)]
      have nx := ih (k + 1) (by omega)
      have e1 : ((k + 1 : Nat) : Int) = (k : Int) + 1 := by omega
      rw [e1] at nx
      refine cc_isIn hR fun x hx => ⟨x, rfl, fun c2 => ?_, fun c2 => ⟨fun c3 => ?_, fun c3 => ?_⟩⟩
      · have e : nrS p s i (k + 1) = nrS p s i k := by
          rw [nrS_s]
          rw [if_neg (by omega)]; omega
        rw [e] at nx
        exact Y_fg (by exact ⟨rfl, rfl, rfl, rfl, rfl, trivial⟩) nx
      · have e : nrS p s i (k + 1) = nrS p s i k := by
          rw [nrS_s]
          rw [if_neg (by omega)]; omega
        rw [e] at nx
        exact Y_fg (by exact ⟨rfl, rfl, rfl, rfl, rfl, trivial⟩) nx
      · have e : nrS p s i (k + 1) = nrS p s i k + 1 := by
          rw [nrS_s]
          rw [if_pos ⟨by omega, c3⟩]
        rw [e] at nx
        exact Y_fg (by exact ⟨rfl, rfl, rfl, rfl, rfl, trivial⟩) nx
  exact Y_met rfl 3 rfl (sg_X7_neighbours_0 _ _ _ _ _ (key (p 10).toNat 0 (by omega)))
theorem faS_rg {i b : Int} (hp : OkPa p) (hs : OkSt p s) (h0 : 0 ≤ i) (h1 : i < p 10) : 0 ≤ farS s i ∧ farS s i ≤ 2000 := by
  have hi := hs.1 i h0 h1
  have h20 := hs.2.1
  have h21 := hs.2.2.1
  have r1 := abv_rg (x := s i - s 20) (by omega) (by omega)
  have r2 := abv_rg (x := s (10 + i) - s 21) (by omega) (by omega)
  unfold farS
  omega
theorem ab_t4 (x : Int) : ab32 (Int.tmod x 4) = abv (Int.tmod x 4) := by
  have h1 := Int.tmod_lt_of_pos x (b := 4) (by decide)
  have h2 : -4 < Int.tmod x 4 := by
    have h3 := Int.tmod_lt_of_pos (-x) (b := 4) (by decide)
    rw [Int.neg_tmod] at h3
    omega
  unfold ab32 abv
  split
  · rfl
  · exact w32i (by omega) (by omega)
set_option maxHeartbeats 1000000 in
theorem cc_choice {i b : Int} (hp : OkPa p) (hH : HalfC m p L) (hR : RepC m j p s) (hs : OkSt p s) (h0 : 0 ≤ i) (h1 : i < p 10) (h : ∀ m2, FrS [802, 402] j m m2 → Q (some (vi (lwF L (faS p s i b)))) m2) : MtX yX7_choice cX7_choice 5 (some .int) (d + 3) [vr 7 j, vr 2 0, vi i, vi b] m Q := by
  have hn := hp.1
  obtain ⟨b1, b2, b3, b4, b5, b6⟩ := hH
  refine Y_met rfl 1 rfl (sg_X7_choice_0 _ _ _ _ _ (cc_far hp hR hs h0 h1 ⟨_, rfl, by omega, ?_⟩))
  cases L with
  | none =>
    have e : m 3 (m 2 0 7).toNat 3 = 0 := b6
    refine Y_met rfl 0 rfl (sg_X3_isEmpty_0 _ _ _ ⟨fun c => absurd e c, fun _ => ⟨Or.inr rfl, 1, rfl, fun c => by omega, fun _ => ?_⟩⟩)
    have hf := h m (FrS_refl _ _ _)
    refine Y_met rfl 0 rfl (sg_X7_plainChoice_0 _ _ _ _ ?_)
    rw [hR.2.2.2.1]
    unfold lwF faS at hf
    simp only [if_pos, Int.reduceEq, if_false] at hf
    exact ⟨fun c => ⟨fun c2 => ⟨trivial, _, rfl, trivial, by rw [if_pos c, if_neg (by omega)] at hf; exact hf⟩, fun c2 => ⟨trivial, _, rfl, trivial, by rw [if_pos c, if_pos (by omega)] at hf; exact hf⟩⟩, fun c => ⟨fun c2 => ⟨trivial, _, rfl, trivial, by rw [if_neg c, if_neg (by omega)] at hf; exact hf⟩, fun c2 => ⟨trivial, _, rfl, trivial, by rw [if_neg c, if_pos (by omega)] at hf; exact hf⟩⟩⟩
  | some ls =>
    obtain ⟨e1, e2, e3, e4, e6⟩ := b6
    refine Y_met rfl 0 rfl (sg_X3_isEmpty_0 _ _ _ ⟨fun _ => ⟨Or.inl rfl, 0, rfl, fun _ => ?_, fun c => absurd rfl c⟩, fun c => absurd c e1⟩)
    refine ⟨by decide, by decide, by decide, by omega, by decide, ?_⟩
    rw [hR.2.1.1, hR.2.2.2.1, b2 i h0 h1]
    refine cc_bitCount hp.2.2.1 hp.2.2.2 ⟨_, rfl, by decide, ?_, ?_⟩
    · show 0 ≤ m 2 0 7
      omega
    have worth : ∀ v (fb : Int → Int), (∀ k, k ≠ 5 → fb k = faS p s i b k) → fb 5 = v → valL fb ls = valL (faS p s i b) ls → MtX yX3_worth cX3_worth 6 (some .int) (d + 2) [vr 3 (m 2 0 7).toNat, vr 802 j] (upM (upM (upM (upM (upM (upM m 802 j 0 (farS s i)) 802 j 1 (s 21)) 802 j 2 b) 802 j 3 (p i)) 802 j 4 (popB (p 11))) 802 j 5 v) (fun r m12 => ∃ x14 : Int, r = some (vi x14) ∧ (rk (some .int) (some (vi (ab32 (Int.tmod x14 4)))) ∧ Q (some (vi (ab32 (Int.tmod x14 4)))) m12)) := by
      intro v fb hfb hfv hval
      refine cc_worth (l := (m 2 0 7).toNat) (ls := ls) (fa := fb) e2 ?_ e3 e4 fun m2 hF => ⟨_, rfl, trivial, ?_⟩
      · intro k g0 g1
        have hk : k = 0 ∨ k = 1 ∨ k = 2 ∨ k = 3 ∨ k = 4 ∨ k = 5 := by omega
        rcases hk with rfl | rfl | rfl | rfl | rfl | rfl
        · rw [hfb 0 (by decide)]; simp [upM, faS]
        · rw [hfb 1 (by decide)]; simp [upM, faS]
        · rw [hfb 2 (by decide)]; simp [upM, faS]
        · rw [hfb 3 (by decide)]; simp [upM, faS]
        · rw [hfb 4 (by decide)]; simp [upM, faS]
        · rw [hfv]; simp [upM]
      · rw [hval, ab_t4]
        refine h m2 (FrS_trans ?_ (FrS_ofM hF (by decide) (by decide)))
        exact FrS_u (FrS_u (FrS_u (FrS_u (FrS_u (FrS_u (FrS_refl _ _ _) (by decide) (by decide)) (by decide) (by decide)) (by decide) (by decide)) (by decide) (by decide)) (by decide) (by decide)) (by decide) (by decide)
    refine ⟨fun c => ⟨by decide, ?_, ?_⟩, fun c => ?_⟩
    · show 0 ≤ m 2 0 7
      omega
    · exact worth 0 (fun k => if k = 5 then 0 else faS p s i b k) (fun k hk => by simp [hk]) (by simp) (valL_n5 (fun k hk => by simp [hk]) (e6 c))
    · have eb : (upM (upM (upM (upM m 802 j 0 (farS s i)) 802 j 1 (s 21)) 802 j 2 b) 802 j 3 (p i)) 2 0 5 = p 10 := b1
      rw [eb]
      refine cc_neigh hp (RepC_fr (fun k x hk => ?_) hR) hs h0 h1 ⟨_, rfl, by decide, ?_, ?_⟩
      · rcases hk with rfl | rfl | rfl <;> rfl
      · show 0 ≤ m 2 0 7
        omega
      · exact worth (nrS p s i (p 10).toNat) (faS p s i b) (fun _ _ => rfl) (by simp [faS]) rfl
set_option maxHeartbeats 1000000 in
theorem cc_come {i : Int} (hp : OkPa p) (hR : RepC m j p s) (hs : OkSt p s) (h0 : 0 ≤ i) (h1 : i < p 10) (h : ∀ m2, FrS [800, 801] j m m2 → RepC m2 j p (cnS s i) → Q none m2) : MtX yX7_comeNearer cX7_comeNearer 5 none (d + 1) [vr 7 j, vi i] m Q := by
  have hn := hp.1
  have hi := hs.1 i h0 h1
  have h20 := hs.2.1
  have h21 := hs.2.2.1
  have r0 := (hR.1 i h0 h1).1
  have r1 := (hR.1 i h0 h1).2
  have r4 := hR.2.2.1
  have r5 := hR.2.2.2.1
  have fr : ∀ c r, FrS [800, 801] j m (upM (upM m 800 j i c) 801 j i r) := fun c r => FrS_u (FrS_u (FrS_refl _ _ _) (by decide) (by decide)) (by decide) (by decide)
  have key : ∀ c r, c = ncC s i → r = ncR s i → Y cX7_comeNearer 5 RX7 (d + 1) none 65 [some (vr 7 j), some (vi i), some (vi c), some (vi r), none] [] m (fun r mem2 => rk none r ∧ Q r mem2) := by
    intro c r hc0 hr0
    have hy : (1 ≤ r ∧ ¬ (c = s 20 ∧ r = s 21)) → cnS s i = upS (upS s i c) (10 + i) r := fun z => by subst hc0; subst hr0; exact if_pos z
    have hno : ¬ (1 ≤ r ∧ ¬ (c = s 20 ∧ r = s 21)) → cnS s i = s := fun z => by subst hc0; subst hr0; exact if_neg z
    clear hc0 hr0
    have yes : (1 ≤ r ∧ ¬ (c = s 20 ∧ r = s 21)) → Q none (upM (upM m 800 j i c) 801 j i r) := fun hc => h _ (fr c r) (by rw [hy hc]; exact RepC_r hn.2 h0 h1 (RepC_c hn.2 h0 h1 hR))
    have no : ¬ (1 ≤ r ∧ ¬ (c = s 20 ∧ r = s 21)) → Q none m := fun hc => h _ (FrS_refl _ _ _) (by rw [hno hc]; exact hR)
    refine sg_X7_comeNearer_65 _ _ _ _ _ _ ?_
    rw [r4, r5]
    refine ⟨fun c1 => sg_X7_comeNearer_85 _ _ _ _ _ _ ⟨fun c2 => ⟨trivial, no (by omega)⟩, fun c2 => ⟨fun c3 => absurd rfl c3, fun _ => ⟨by omega, by omega, trivial, yes (by omega)⟩⟩⟩, fun c1 => ⟨fun c2 => sg_X7_comeNearer_85 _ _ _ _ _ _ ⟨fun c2 => ⟨trivial, no (by omega)⟩, fun c2 => ⟨fun c3 => absurd rfl c3, fun _ => ⟨by omega, by omega, trivial, yes (by omega)⟩⟩⟩, fun c2 => ⟨fun c3 => ⟨trivial, no (by omega)⟩, fun c3 => ⟨fun _ => ⟨trivial, no (by omega)⟩, fun c4 => by omega⟩⟩⟩⟩
  have e1 : w32 (s i + 1) = s i + 1 := w32i (by omega) (by omega)
  have e2 : w32 (s i + -1) = s i - 1 := by rw [w32i (by omega) (by omega)]; omega
  have e3 : w32 (s (10 + i) + 1) = s (10 + i) + 1 := w32i (by omega) (by omega)
  have e4 : w32 (s (10 + i) + -1) = s (10 + i) - 1 := by rw [w32i (by omega) (by omega)]; omega
  refine Y_met rfl 3 rfl (sg_X7_comeNearer_0 _ _ _ _ ⟨by omega, by omega, ?_⟩)
  rw [r0, r1, r4, r5, e1, e2, e3, e4]
  refine ⟨fun c1 => ⟨fun c2 => ?_, fun c2 => ⟨fun c3 => ?_, fun c3 => ?_⟩⟩, fun c1 => ⟨fun c2 => ?_, fun c2 => ?_⟩⟩
  all_goals (refine key _ _ ?_ ?_)
  all_goals (first | unfold ncC | unfold ncR)
  all_goals ((repeat' split) <;> omega)
end
section
variable {d j : Nat} {p : StR} {L : Option LnL} {Q : Option AV → AMem → Prop}
set_option maxHeartbeats 1000000 in
theorem cc_they {s0 : StR} {b : Int} {m0 : AMem} (hp : OkPa p) (hs0 : OkSt p s0) (h28 : s0 28 = 0) (hH : HalfC m0 p L) (hR : RepC m0 j p s0) (h : ∀ m2, FrS wSc j m0 m2 → RepC m2 j p (alS p L b s0 (p 10).toNat) → Q (some (vi (alS p L b s0 (p 10).toNat 28))) m2) : MtX yX7_theyAct cX7_theyAct 6 (some .int) (d + 4) [vr 7 j, vr 2 0, vi b] m0 Q := by
  have hn := hp.1
  obtain ⟨hN1, hN2⟩ := N_le hp
  have key : ∀ (r k : Nat) (m : AMem), k + r = (p 10).toNat → FrS wSc j m0 m → RepC m j p (alS p L b s0 k) → Y cX7_theyAct 6 RX7 (d + 4) none 5 [some (vr 7 j), some (vr 2 0), some (vi b), some (vi (alS p L b s0 k 28)), some (vi k), none] [] m (fun r mem2 => rk (some .int) r ∧ Q r mem2) := by
    intro r
    induction r with
    | zero =>
      intro k m hk hF hR
      have e : k = (p 10).toNat := by omega
      have hH := HalfC_S hF hH
      refine sg_X7_theyAct_5 _ _ _ _ _ _ ⟨fun _ => ⟨trivial, by rw [e] at hR ⊢; exact h m hF hR⟩, fun c => by rw [hH.1] at c; omega⟩
    | succ r ih =>
      intro k m hk hF hR
      have hH := HalfC_S hF hH
      have hs := okS_al (L := L) (b := b) hp hs0 (n := k) (by omega)
      have h28 := alS_28 (L := L) (b := b) hp h28 (n := k) (by omega)
      generalize hsk : alS p L b s0 k = s at hR hs h28
      have hnx : ∀ m2, FrS wSc j m m2 → RepC m2 j p (alS p L b s0 (k + 1)) → Y cX7_theyAct 6 RX7 (d + 4) none 5 [some (vr 7 j), some (vr 2 0), some (vi b), some (vi (alS p L b s0 (k + 1) 28)), some (vi (w32 ((k : Int) + 1))), none] [] m2 (fun r mem2 => rk (some .int) r ∧ Q r mem2) := by
        intro m2 hF2 hR2
        have := ih (k + 1) m2 (by omega) (FrS_trans hF hF2) hR2
        rwa [show ((k + 1 : Nat) : Int) = w32 ((k : Int) + 1) by rw [w32i (by omega) (by omega)]; omega] at this
      have ea : alS p L b s0 (k + 1) = acS p L b s k := by rw [← hsk]; rfl
      rw [ea] at hnx
      have hk7 : (k : Int) < p 10 := by omega
      have hst := (hp.2.1 k (by omega) hk7)
      refine sg_X7_theyAct_5 _ _ _ _ _ _ ⟨fun c => by rw [hH.1] at c; omega, fun c => ?_⟩
      refine cc_isIn hR fun x hx => ⟨x, rfl, fun c2 => ?_, fun c2 => ?_⟩
      · have hin : tbt (p 11) k = 1 := by omega
        refine cc_choice hp hH hR hs (by omega) hk7 fun m2 hF2 => ⟨_, rfl, fun c3 => ⟨fun c4 => ⟨fun c5 => ?_, fun c5 => ?_⟩, fun c4 => ⟨by omega, by omega, ?_⟩⟩, fun c3 => ?_⟩
        · have e : acS p L b s k = s := by
            unfold acS; rw [if_pos hin, if_neg c3, if_neg c4, if_neg (fun z => c5 z.1)]
          rw [e] at hnx
          exact Y_fg (by exact ⟨rfl, rfl, rfl, rfl, rfl, trivial⟩) (hnx m2 (FrS_mono hF2 (by decide)) (RepC_q hF2 hR))
        · have hR2 := RepC_q hF2 hR
          refine ⟨fun c6 => ?_, fun c6 => ?_⟩
          · have e : acS p L b s k = s := by
              unfold acS; rw [if_pos hin, if_neg c3, if_neg c4, if_neg (fun z => by rw [hR2.2.2.2.1] at c6; omega)]
            rw [e] at hnx
            exact Y_fg (by exact ⟨rfl, rfl, rfl, rfl, rfl, trivial⟩) (hnx m2 (FrS_mono hF2 (by decide)) hR2)
          · refine cc_far hp hR2 hs (by omega) hk7 ⟨_, rfl, fun c7 => ?_, fun c7 => ⟨by omega, ?_⟩⟩
            · have e : acS p L b s k = s := by
                unfold acS; rw [if_pos hin, if_neg c3, if_neg c4, if_neg (fun z => by omega)]
              rw [e] at hnx
              exact Y_fg (by exact ⟨rfl, rfl, rfl, rfl, rfl, trivial⟩) (hnx m2 (FrS_mono hF2 (by decide)) hR2)
            · have e : acS p L b s k = upS (upS s 25 (or_32 (s 25) (shl32 1 k))) 28 (s 28 + p k) := by
                unfold acS; rw [if_pos hin, if_neg c3, if_neg c4, if_pos ⟨c5, by rw [hR2.2.2.2.1] at c6; omega, by omega⟩]
              rw [e, upS_s] at hnx
              have hst2 : m2 302 0 k = p k := by rw [FrS_n hF2 (by decide) (by decide)]; exact hH.2.1 k (by omega) hk7
              rw [hst2, w32i (z := s 28 + p k) (by omega) (by omega), hR2.2.2.2.2.2.2.2.1]
              exact Y_fg (by exact ⟨rfl, rfl, rfl, rfl, rfl, trivial⟩) (hnx _ (FrS_u (FrS_mono hF2 (by decide)) (by decide) (by decide)) (RepC_28 hn.2 (RepC_u (q := 11) hn.2 (by decide) hR2)))
        · have e : acS p L b s k = upS s (10 + k) (min 8 (s (10 + k) + 1)) := by
            unfold acS; rw [if_pos hin, if_neg c3, if_pos c4]
          have hR2 := RepC_q hF2 hR
          have hk8 := hs.1 k (by omega) hk7
          rw [e, upS_n (by omega)] at hnx
          rw [(hR2.1 k (by omega) hk7).2, w32i (z := s (10 + k) + 1) (by omega) (by omega)]
          exact Y_fg (by exact ⟨rfl, rfl, rfl, rfl, rfl, trivial⟩) (hnx _ (FrS_u (FrS_mono hF2 (by decide)) (by decide) (by decide)) (RepC_r hn.2 (by omega) hk7 hR2))
        · have e : acS p L b s k = cnS s k := by
            unfold acS; rw [if_pos hin, if_pos c3]
          have hR2 := RepC_q hF2 hR
          rw [e, cnS_k (by omega) (by omega)] at hnx
          refine cc_come hp hR2 hs (by omega) hk7 fun m3 hF3 hR3 => ⟨rfl, ?_⟩
          exact Y_fg (by exact ⟨rfl, rfl, rfl, rfl, rfl, trivial⟩) (hnx m3 (FrS_trans (FrS_mono hF2 (by decide)) (FrS_mono hF3 (by decide))) hR3)
      · have e : acS p L b s k = s := by
          unfold acS; rw [if_neg (by omega)]
        rw [e] at hnx
        exact hnx m (FrS_refl _ _ _) hR
  exact Y_met rfl 3 rfl (sg_X7_theyAct_0 _ _ _ _ (by have := key (p 10).toNat 0 m0 (by omega) (FrS_refl _ _ _) hR; rwa [show alS p L b s0 0 28 = 0 from h28] at this))
theorem cc_reach {s0 : StR} {m0 : AMem} (hp : OkPa p) (hs0 : OkSt p s0) (hH : HalfC m0 p L) (hR : RepC m0 j p s0) (h : ∀ m2, FrS [7] j m0 m2 → RepC m2 j p (if 1 ≤ s0 21 then toS p s0 (p 10).toNat else s0) → Q none m2) : MtX yX7_reachOut cX7_reachOut 4 none (d + 2) [vr 7 j, vr 2 0] m0 Q := by
  have hn := hp.1
  obtain ⟨hN1, hN2⟩ := N_le hp
  refine Y_met rfl 2 rfl (sg_X7_reachOut_0 _ _ _ ⟨fun c => ⟨by decide, ?_⟩, fun c => ⟨trivial, ?_⟩⟩)
  · rw [hR.2.2.2.1] at c
    rw [if_pos c] at h
    rw [hH.2.2.1]
    have key : ∀ (r k : Nat) (m : AMem), k + r = (p 10).toNat → FrS [7] j m0 m → RepC m j p (toS p s0 k) → Y cX7_reachOut 4 RX7 (d + 2) none 18 [some (vr 7 j), some (vr 2 0), some (vi (p 12)), some (vi k)] [] m (fun r mem2 => rk none r ∧ Q r mem2) := by
      intro r
      induction r with
      | zero =>
        intro k m hk hF hR
        have e : k = (p 10).toNat := by omega
        refine sg_X7_reachOut_18 _ _ _ _ _ ⟨fun _ => ⟨trivial, h m hF (by rw [← e]; exact hR)⟩, fun c => by rw [FrS_n hF (by decide) (by decide), hH.1] at c; omega⟩
      | succ r ih =>
        intro k m hk hF hR
        have hs := okS_to hp hs0 (n := k) (by omega)
        have hnx : ∀ m2, FrS [7] j m m2 → RepC m2 j p (toS p s0 (k + 1)) → Y cX7_reachOut 4 RX7 (d + 2) none 18 [some (vr 7 j), some (vr 2 0), some (vi (p 12)), some (vi (w32 ((k : Int) + 1)))] [] m2 (fun r mem2 => rk none r ∧ Q r mem2) := by
          intro m2 hF2 hR2
          have := ih (k + 1) m2 (by omega) (FrS_trans hF hF2) hR2
          rwa [show ((k + 1 : Nat) : Int) = w32 ((k : Int) + 1) by rw [w32i (by omega) (by omega)]; omega] at this
        refine sg_X7_reachOut_18 _ _ _ _ _ ⟨fun c => by rw [FrS_n hF (by decide) (by decide), hH.1] at c; omega, fun c => ?_⟩
        refine cc_isIn hR fun x hx => ⟨x, rfl, fun c2 => ?_, fun c2 => ?_⟩
        · refine hnx m (FrS_refl _ _ _) ?_
          rw [toS_s]
          rw [if_neg (by omega)]
          exact hR
        · refine cc_far hp hR hs (by omega) (by omega) ⟨_, rfl, fun c3 => ?_, fun c3 => ?_⟩
          · refine hnx m (FrS_refl _ _ _) ?_
            rw [toS_s]
            rw [if_neg (by omega)]
            exact hR
          · refine hnx _ (FrS_u (FrS_refl _ _ _) (by decide) (by decide)) ?_
            rw [hR.2.2.2.2.2.2.1]
            have := RepC_u (v := or_32 (toS p s0 k 24) (shl32 1 k)) (q := 10) (x := 24) hn.2 (by decide) hR
            rw [toS_s]
            rw [if_pos (by omega)]
            exact this
    exact key (p 10).toNat 0 m0 (by omega) (FrS_refl _ _ _) hR
  · rw [hR.2.2.2.1] at c
    rw [if_neg c] at h
    exact h m0 (FrS_refl _ _ _) hR
theorem cc_step {s : StR} {m : AMem} {v : Int} (hp : OkPa p) (hs : OkSt p s) (hR : RepC m j p s) (h : ∀ m2, FrS [7] j m m2 → RepC m2 j p (mvR s v) → Q none m2) : MtX yX7_step cX7_step 2 none (d + 1) [vr 7 j, vi v] m Q := by
  have hn := hp.1
  have h20 := hs.2.1
  have h21 := hs.2.2.1
  have r4 := hR.2.2.1
  have r5 := hR.2.2.2.1
  have up : ∀ (q x w : Int), (q, x) ∈ [((4 : Int), (20 : Int)), (5, 21), (8, 22), (9, 23), (10, 24), (11, 25), (12, 27), (13, 26)] → mvR s v = upS s x w → Q none (upM m 7 j q w) := fun q x w hq e => h _ (FrS_u (FrS_refl _ _ _) (by decide) (by decide)) (by rw [e]; exact RepC_u hn.2 hq hR)
  have no : mvR s v = s → Q none m := fun e => h _ (FrS_refl _ _ _) (by rw [e]; exact hR)
  have e1 : w32 (s 21 + 1) = s 21 + 1 := w32i (by omega) (by omega)
  have e2 : w32 (s 21 - 1) = s 21 - 1 := w32i (by omega) (by omega)
  have e3 : w32 (s 20 + 1) = s 20 + 1 := w32i (by omega) (by omega)
  have e4 : w32 (s 20 - 1) = s 20 - 1 := w32i (by omega) (by omega)
  have last : v ≠ 1 ∨ 8 ≤ s 21 → v ≠ 2 ∨ s 21 ≤ 0 → Y cX7_step 2 RX7 (d + 1) none 52 [some (vr 7 j), some (vi v)] [] m (fun r mem2 => rk none r ∧ Q r mem2) := by
    intro q1 q2
    refine sg_X7_step_52 _ _ _ _ ?_
    rw [r4, e3, e4]
    refine ⟨fun c => ⟨fun c2 => ⟨trivial, no ?_⟩, fun c2 => ⟨fun c3 => ⟨trivial, no ?_⟩, fun c3 => ⟨trivial, up 4 20 _ (by decide) ?_⟩⟩⟩, fun c => ⟨fun c2 => ⟨fun c3 => ⟨trivial, no ?_⟩, fun c3 => by omega⟩, fun c2 => ⟨trivial, up 4 20 _ (by decide) ?_⟩⟩⟩ <;> unfold mvR <;> (repeat' split) <;> first | rfl | omega
  have mid : v ≠ 1 ∨ 8 ≤ s 21 → Y cX7_step 2 RX7 (d + 1) none 27 [some (vr 7 j), some (vi v)] [] m (fun r mem2 => rk none r ∧ Q r mem2) := by
    intro q1
    refine sg_X7_step_27 _ _ _ _ ?_
    rw [r5, e2]
    refine ⟨fun c => last q1 (Or.inl c), fun c => ⟨fun c2 => last q1 (Or.inr c2), fun c2 => ⟨trivial, up 5 21 _ (by decide) ?_⟩⟩⟩
    unfold mvR
    (repeat' split) <;> first | rfl | omega
  refine Y_met rfl 0 rfl (sg_X7_step_0 _ _ _ _ ?_)
  rw [r5, e1]
  refine ⟨fun c => mid (Or.inl c), fun c => ⟨fun c2 => mid (Or.inr c2), fun c2 => ⟨trivial, up 5 21 _ (by decide) ?_⟩⟩⟩
  unfold mvR
  (repeat' split) <;> first | rfl | omega
set_option maxHeartbeats 1000000 in
theorem cc_second {s : StR} {m : AMem} {v : Int} (hp : OkPa p) (hs : OkSt p s) (h22 : 0 ≤ s 22 ∧ s 22 ≤ 1000) (hH : HalfC m p L) (hR : RepC m j p s) (h : ∀ m2, FrS wSc j m m2 → RepC m2 j p (secS p L s v) → Q none m2) : MtX yX7_second cX7_second 6 none (d + 5) [vr 7 j, vr 2 0, vi v] m Q := by
  have hn := hp.1
  have rest : ∀ (m1 : AMem) (y : Int), FrS wSc j m m1 → RepC m1 j p (s1S s v) → ¬ (s1S s v 21 = 0 ∧ 0 < s 21) → Y cX7_second 6 RX7 (d + 5) none 56 [some (vr 7 j), some (vr 2 0), some (vi v), some (vi y), some (vi (s 22)), none] [] m1 (fun r mem2 => rk none r ∧ Q r mem2) := by
    intro m1 y hF1 hR1 hc
    have hmax : max (m1 7 j 9) (m1 7 j 5) = max (s 23) (s1S s v 21) := by
      rw [hR1.2.2.2.2.2.1, hR1.2.2.2.1, s1S_k (k := 23) (by decide) (by decide), mvR_k (by decide) (by decide)]
    have hR2 : RepC (upM m1 7 j 9 (max (s 23) (s1S s v 21))) j p (upS (upS (s1S s v) 23 (max (s 23) (s1S s v 21))) 28 0) := RepC_28 hn.2 (RepC_u (q := 9) hn.2 (by decide) hR1)
    have hF2 : FrS wSc j m (upM m1 7 j 9 (max (s 23) (s1S s v 21))) := FrS_u hF1 (by decide) (by decide)
    refine sg_X7_second_56 _ _ _ _ _ _ ?_
    rw [hmax]
    refine cc_reach (L := L) hp (okS_t hp hs) (HalfC_S hF2 hH) hR2 fun m3 hF3 hR3 => ⟨rfl, ?_⟩
    have hF3' := FrS_trans hF2 (FrS_mono hF3 (by decide))
    have e2 : (if 1 ≤ upS (upS (s1S s v) 23 (max (s 23) (s1S s v 21))) 28 0 21 then toS p (upS (upS (s1S s v) 23 (max (s 23) (s1S s v 21))) 28 0) (p 10).toNat else upS (upS (s1S s v) 23 (max (s 23) (s1S s v 21))) 28 0) = s2S p s v := by
      rw [upS_n (i := 28) (k := 21) (by decide), upS_n (i := 23) (k := 21) (by decide)]
      rfl
    rw [e2] at hR3
    refine cc_they (b := s 22) hp (okS_2 hp hs) s2S_28 (HalfC_S hF3' hH) hR3 fun m4 hF4 hR4 => ⟨_, rfl, ?_⟩
    have hF4' := FrS_trans hF3' hF4
    have e3 : alS p L (s 22) (s2S p s v) (p 10).toNat = s3S p L s v := rfl
    rw [e3] at hR4 ⊢
    rw [hR4.2.1.2.2, hR4.2.2.2.2.2.2.2.2.1]
    refine ⟨fun c => ⟨trivial, h _ (FrS_u hF4' (by decide) (by decide)) ?_⟩, fun c => ⟨trivial, h _ (FrS_u (FrS_u hF4' (by decide) (by decide)) (by decide) (by decide)) ?_⟩⟩
    · unfold secS
      rw [if_neg hc, if_pos c]
      exact RepC_u (q := 12) hn.2 (by decide) hR4
    · unfold secS
      rw [if_neg hc, if_neg c]
      exact RepC_u (q := 13) hn.2 (by decide) (RepC_u (q := 12) hn.2 (by decide) hR4)
  have e8 : m 7 j 8 = s 22 := hR.2.2.2.2.1
  have step : ∀ m2, FrS [7] j m m2 → RepC m2 j p (mvR s v) → RepC (upM (upM m2 7 j 8 (w32 (m2 7 j 8 + 1))) 7 j 11 0) j p (s1S s v) ∧ FrS wSc j m (upM (upM m2 7 j 8 (w32 (m2 7 j 8 + 1))) 7 j 11 0) := by
    intro m2 hF2 hR2
    refine ⟨?_, FrS_u (FrS_u (FrS_mono hF2 (by decide)) (by decide) (by decide)) (by decide) (by decide)⟩
    rw [hR2.2.2.2.2.1, mvR_k (by decide) (by decide), w32i (by omega) (by omega)]
    exact RepC_u (q := 11) hn.2 (by decide) (RepC_u (q := 8) hn.2 (by decide) hR2)
  refine Y_met rfl 3 rfl (sg_X7_second_0 _ _ _ _ ?_)
  rw [e8, hR.2.2.2.1]
  refine ⟨fun c => cc_step hp hs hR fun m2 hF2 hR2 => ⟨rfl, ?_⟩, fun c => cc_step hp hs hR fun m2 hF2 hR2 => ⟨rfl, ?_⟩⟩
  · obtain ⟨g1, g2⟩ := step m2 hF2 hR2
    exact ⟨fun _ => rest _ _ g2 g1 (by omega), fun _ => ⟨fun _ => rest _ _ g2 g1 (by omega), fun c2 => absurd rfl c2⟩⟩
  · obtain ⟨g1, g2⟩ := step m2 hF2 hR2
    have e21 : m2 7 j 5 = s1S s v 21 := by rw [hR2.2.2.2.1, s1S_k (by decide) (by decide)]
    refine ⟨fun c2 => rest _ _ g2 g1 (fun z => c2 (e21.trans z.1)), fun c2 => ⟨fun c3 => absurd c3 (by decide), fun _ => ⟨trivial, h _ (FrS_u g2 (by decide) (by decide)) ?_⟩⟩⟩
    unfold secS
    rw [if_pos ⟨by omega, by omega⟩]
    exact RepC_u (q := 13) hn.2 (by decide) g1
end
