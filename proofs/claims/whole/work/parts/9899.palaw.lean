/-! law: both read the same text -/
theorem enN_cg {m m2 : AMem} : ∀ {ls : LnL} {y x : Int}, m2 1321 0 0 = m 1321 0 0 → (∀ i : Int, i < y + ls.length → m2 1322 0 i = m 1322 0 i ∧ m2 1323 0 i = m 1323 0 i) → (∀ i : Int, i < x + lenL ls → m2 1319 0 i = m 1319 0 i ∧ m2 1320 0 i = m 1320 0 i) → enN m y x ls → enN m2 y x ls := by
  intro ls
  induction ls with
  | nil => intro y x e _ _ h; exact e.trans h
  | cons q r ih =>
    intro y x e h1 h2 h
    obtain ⟨t, c⟩ := q
    obtain ⟨g1, g2, g3, g4⟩ := h
    have el : ((((t, c) :: r).length : Nat) : Int) = r.length + 1 := by simp
    have el2 : ((lenL ((t, c) :: r) : Nat) : Int) = t.length + c.length + lenL r := by simp [lenL]
    have el3 : (((t ++ c).length : Nat) : Int) = t.length + c.length := by simp
    rw [el] at h1
    rw [el2] at h2
    have q := h1 y (by omega)
    exact ⟨q.1.trans g1, q.2.trans g2, enM_cg (fun i c1 c2 => h2 i (by omega)) g3, ih e (fun i c1 => h1 i (by omega)) (fun i c1 => h2 i (by omega)) g4⟩
section
variable {T : Int → Int} {n p p2 : Int} {f d : Nat} {m m1 m2 : AMem} {Q : Option AV → AMem → Prop}
theorem RdS_f : ∀ {f : Nat} {p p2 : Int} {res : Option LnL}, RdS T n f p p2 res → p ≤ n → p ≤ p2 ∧ p2 ≤ n := by
  intro f
  induction f with
  | zero => intro p p2 res h; exact absurd h id
  | succ f ih =>
    intro p p2 res h hp
    rcases RdS_1 h with ⟨_, e, _⟩ | ⟨c, ⟨_, g⟩ | ⟨p1, q, b, g, g2, _⟩⟩
    · omega
    · have hl := pkT_lt (T := T) (n := n) (p := p) (by omega)
      have := RdN_f g (by omega)
      exact ⟨by have := this.1; omega, this.2.1⟩
    · have hl := pkT_lt (T := T) (n := n) (p := p) (by omega)
      have h1 := RdN_f g (by omega)
      have h2 := ih g2 h1.2.1
      exact ⟨by have := h1.1; omega, h2.2⟩
theorem RdT_p {res : Option LnL} (h : RdT T n f p2 res) (hn : 0 ≤ n) : 0 ≤ p2 ∧ p2 ≤ n := by
  rcases h with ⟨_, g⟩ | ⟨p1, q, b, g, g2, _⟩
  · have := RdN_f g hn
    exact ⟨this.1, this.2.1⟩
  · have h1 := RdN_f g hn
    have h2 := RdS_f g2 h1.2.1
    exact ⟨by have := h1.1; omega, h2.2⟩
def wLw : List Nat := [2, 3, 4, 400, 401, 1319, 1320, 1321, 1322, 1323, 5014, 5015, 5016, 5017, 5018, 5026]
def wLf : List Nat := [3, 4, 400, 401, 1319, 1320, 1321, 1322, 1323, 5014, 5015, 5016, 5017, 5018]
theorem cd12 {i : Int} {x : Nat} {W : List Nat} (hx : 5000 + x ∈ W) (h : cdc 12 i ∉ W) : i ≠ x := fun e => h (by subst e; exact hx)
theorem cdk {k : Nat} {i : Int} {W : List Nat} (hk : k ≠ 12) (h : cdc k i ∉ W) : k ∉ W := by
  unfold cdc at h
  rwa [if_neg hk] at h
theorem pa_law (hA : InvAl m) (hst : m 2 0 6 ≤ 100000) (hQ : ∀ x m1, MtX yX12_law cX12_law 2 (some .int) (d + 80) [vr 12 0] m1 (fun r m2 => r = some (vi x) ∧ InvAl m2 ∧ m2 2 0 6 ≤ m 2 0 6 + 8) → Q (some (vi x)) m1) : MtX yX11_law cX11_law 2 (some .int) (d + 80) [vr 11 0] m Q := by
  obtain ⟨aH, aC, aT, aM, aB, aS, aD, a0, Lw, b1, b2, b3⟩ := hA
  obtain ⟨⟨t1, t2, t3⟩, t4⟩ := aT
  obtain ⟨d1, d2⟩ := aD
  obtain ⟨f, p2, res, h⟩ := RdT_ex (T := m 500 0) (n := m 12 0 14) t1
  have hp := RdT_p h t1
  have hT : ∀ i : Int, 0 ≤ i → i < m 12 0 14 → 0 ≤ m 500 0 i ∧ m 500 0 i ≤ 255 := fun i c c2 => ⟨(t4 i c c2).1, (t4 i c c2).2.1⟩
  obtain ⟨L, hL⟩ : ∃ L : Nat, (L : Int) = m 4 0 4 := ⟨(m 4 0 4).toNat, by omega⟩
  obtain ⟨j, hj⟩ : ∃ j : Nat, (j : Int) = m 2 0 7 := ⟨(m 2 0 7).toNat, by have := b1.1; omega⟩
  have hjt : (m 2 0 7).toNat = j := by omega
  have hjL : j ≠ L := by omega
  refine Y_met rfl 1 rfl (sg_X11_law_0 _ _ ?_)
  refine cc_rdAll (L := L) hT t1 t2 h rfl t3 (by omega) (by omega) (fun c mr hF h44 h41 => ⟨_, rfl, fun c2 => by omega, fun _ => ⟨trivial, hQ _ _ ?_⟩⟩) fun x hx c mr hF h44 h41 k1 k2 k3 k4 k5 => ⟨_, rfl, fun _ => ⟨?_, ?_⟩, fun c2 => absurd (by decide) c2⟩
  · -- a fault
    have hT2 : ∀ i : Int, 0 ≤ i → i < m 12 0 14 → 0 ≤ m 500 0 i ∧ m 500 0 i ≤ 255 ∧ mr 1313 0 i = b8 (m 500 0 i) := fun i c c2 => ⟨(t4 i c c2).1, (t4 i c c2).2.1, by rw [hF _ _ _ (by decide) (by omega)]; exact (t4 i c c2).2.2⟩
    refine Y_met rfl 1 rfl (sg_X12_law_0 _ _ (cm_readText h t1 t2 (by rw [hF _ _ _ (by decide) (by omega)]) hT2 (by omega) (fun _ m2 hF2 => ⟨_, rfl, fun c2 => by omega, fun _ => ⟨trivial, rfl, ?_⟩⟩) fun x hx c2 => ?_))
    · have hW : FrM wLf m (upM m2 12 0 14 0) := by
        intro k jj i hc
        by_cases k12 : k = 12
        · subst k12
          have i14 := cd12 (x := 14) (by decide) hc
          have i15 := cd12 (x := 15) (by decide) hc
          have i16 := cd12 (x := 16) (by decide) hc
          have i17 := cd12 (x := 17) (by decide) hc
          have i18 := cd12 (x := 18) (by decide) hc
          have e : (upM m2 12 0 14 0) 12 jj i = m2 12 jj i := by
            have i14 : i ≠ 14 := i14
            unfold upM
            simp [i14]
          rw [e, hF2 _ _ _ (by omega) (by omega) (by omega) (by omega), hF _ _ _ (by decide) (by omega)]
        · have hk := cdk k12 hc
          have n1 : k ≠ 3 := fun z => hk (by subst z; decide)
          have n2 : k ≠ 4 := fun z => hk (by subst z; decide)
          have n4 : k ≠ 400 := fun z => hk (by subst z; decide)
          have n5 : k ≠ 401 := fun z => hk (by subst z; decide)
          have n6 : k ≠ 1319 := fun z => hk (by subst z; decide)
          have n7 : k ≠ 1320 := fun z => hk (by subst z; decide)
          have n8 : k ≠ 1321 := fun z => hk (by subst z; decide)
          have n9 : k ≠ 1322 := fun z => hk (by subst z; decide)
          have n10 : k ≠ 1323 := fun z => hk (by subst z; decide)
          rw [up_k k12, hF2 _ _ _ (by omega) (by omega) (by omega) (by omega), hF _ _ _ n2 (by omega)]
      have e2 : (upM m2 12 0 14 0) 2 0 = m 2 0 := FrM_f hW (by decide) (by decide)
      have e44 : (upM m2 12 0 14 0) 4 0 4 = L := by
        rw [up_k (by decide), hF2 _ _ _ (by omega) (by omega) (by omega) (by omega)]
        exact h44
      have eJ : ∀ k, (k = 3 ∨ k = 400 ∨ k = 401) → (upM m2 12 0 14 0) k j = m k j := fun k hk => by
        funext i
        rw [up_k (by omega), hF2 _ _ _ (by omega) (by omega) (by omega) (by omega), hF _ _ _ (by omega) (fun z => hjL z.2)]
      refine ⟨⟨InvH_sm (Sm_of hW (by decide)) aH, InvC_sm (Sm_of hW (by decide)) aC, ⟨⟨?_, ?_, ?_⟩, ?_⟩, InvM_sm (Sm_of hW (by decide)) aM, InvBd_sm (Sm_of hW (by decide)) aB, InvS_sm (Sm_of hW (by decide)) aS, ⟨?_, ?_⟩, by rw [e2]; exact a0, Lw, ?_, ?_, ?_⟩, by rw [e2]; omega⟩
      · rw [up_s]; decide
      · rw [up_s]; decide
      · rw [up_s, up_k (by decide), hF2 _ _ _ (by omega) (by omega) (by omega) (by omega)]; exact h41
      · rw [up_s]; intro i c c2; omega
      · rw [e44, hL]; exact d1
      · rw [e44, hL, e2]; exact d2
      · unfold LawC at b1 ⊢
        rw [e2, hjt, eJ 3 (by omega), eJ 400 (by omega), eJ 401 (by omega)]
        rw [hjt] at b1
        exact b1
      · have e26 : (upM m2 12 0 14 0) 12 0 26 = m 12 0 26 := hW _ _ _ (by decide)
        have e21 : (upM m2 12 0 14 0) 1321 0 0 = m 1321 0 0 := by
          rw [up_k (by decide), hF2 _ _ _ (by omega) (by omega) (by omega) (by omega), hF _ _ _ (by decide) (by omega)]
        have e22 : ∀ i : Int, i < 61 → (upM m2 12 0 14 0) 1322 0 i = m 1322 0 i ∧ (upM m2 12 0 14 0) 1323 0 i = m 1323 0 i := fun i hi =>
          ⟨by rw [up_k (by decide), hF2 _ _ _ (by omega) (by omega) (by omega) (by omega), hF _ _ _ (by decide) (by omega)], by rw [up_k (by decide), hF2 _ _ _ (by omega) (by omega) (by omega) (by omega), hF _ _ _ (by decide) (by omega)]⟩
        have e19 : ∀ i : Int, i < 130 → (upM m2 12 0 14 0) 1319 0 i = m 1319 0 i ∧ (upM m2 12 0 14 0) 1320 0 i = m 1320 0 i := fun i hi =>
          ⟨by rw [up_k (by decide), hF2 _ _ _ (by omega) (by omega) (by omega) (by omega), hF _ _ _ (by decide) (by omega)], by rw [up_k (by decide), hF2 _ _ _ (by omega) (by omega) (by omega) (by omega), hF _ _ _ (by decide) (by omega)]⟩
        cases Lw with
        | none => exact e26.trans b2
        | some ls =>
          obtain ⟨c1, c2, c3, c4, c5⟩ := b2
          have hle := enN_le c4
          exact ⟨by rw [e26]; exact c1, c2, by rw [e21]; exact c3, enN_cg e21 (fun i hi => e22 i (by omega)) (fun i hi => e19 i (by omega)) c4, c5⟩
      · rw [pOf_fr hW (by decide)]
        exact InvSr_fr hW (by decide) b3
    · rcases c with c | c
      · rw [c] at hx; simp at hx
      · exact absurd c c2
  · rw [h44]; omega
  · -- a new law
    rw [h44, Int.toNat_natCast]
    have e27 : mr 2 0 7 = m 2 0 7 := hF _ _ _ (by decide) (by omega)
    have e26 : mr 2 0 6 = m 2 0 6 := hF _ _ _ (by decide) (by omega)
    refine Y_met rfl 1 rfl (sg_X2_follow_0 _ _ _ ⟨by rw [e27]; have := b1.1; omega, trivial, _, rfl, trivial, hQ _ _ ?_⟩)
    rw [e27, e26, hjt, w32i (by omega) (by omega)]
    generalize hmc : upM (upM (upM mr 2 0 7 (L : Int)) 2 0 6 (m 2 0 6 + 1)) 4 0 4 (j : Int) = mc
    have hE : ∀ k jj i, k ≠ 2 → k ≠ 4 → ¬ ((k = 3 ∨ k = 400 ∨ k = 401) ∧ jj = L) → mc k jj i = m k jj i := by
      subst hmc
      intro k jj i c1 c3 c4
      rw [up_k c3, up_k c1, up_k c1]
      exact hF k jj i c3 c4
    have hE2 : ∀ i : Int, i ≠ 6 → i ≠ 7 → mc 2 0 i = m 2 0 i := by
      subst hmc
      intro i c1 c2
      rw [up_k (by decide), up_i c1, up_i c2]
      exact hF _ _ _ (by decide) (by omega)
    have h6 : mc 2 0 6 = m 2 0 6 + 1 := by subst hmc; rw [up_k (by decide), up_s]
    have h7 : mc 2 0 7 = L := by subst hmc; rw [up_k (by decide), up_i (by decide), up_s]
    have h12 : mc 4 0 4 = j := by subst hmc; exact up_s
    have h11 : mc 4 0 1 = 0 := by subst hmc; rw [up_i (by decide), up_k (by decide), up_k (by decide)]; exact h41
    have hLc : ∀ k, (k = 3 ∨ k = 400 ∨ k = 401) → mc k L = mr k L := by
      subst hmc
      intro k hk
      rw [up_f (by omega), up_f (by omega), up_f (by omega)]
    have hT2 : ∀ i : Int, 0 ≤ i → i < m 12 0 14 → 0 ≤ m 500 0 i ∧ m 500 0 i ≤ 255 ∧ mc 1313 0 i = b8 (m 500 0 i) := fun i c c2 => ⟨(t4 i c c2).1, (t4 i c c2).2.1, by rw [hE _ _ _ (by decide) (by decide) (by omega)]; exact (t4 i c c2).2.2⟩
    refine Y_met rfl 1 rfl (sg_X12_law_0 _ _ (cm_readText h t1 t2 (hE _ _ _ (by decide) (by decide) (by omega)) hT2 (by omega) (fun c3 => ?_) fun y hy c2 m2 hF2 g14 gl g21 gN gO => ⟨_, rfl, fun _ => ⟨trivial, rfl, ?_⟩, fun c3 => absurd (by decide) c3⟩))
    · exfalso
      rcases c3 with c3 | c3
      · rw [c3] at hx; simp at hx
      · exact absurd c3 c
    · obtain rfl : x = y := by rw [hx] at hy; exact Option.some.inj hy
      have hW : FrM wLw m (upM m2 12 0 26 1) := by
        intro k jj i hc
        by_cases k12 : k = 12
        · subst k12
          have i14 := cd12 (x := 14) (by decide) hc
          have i15 := cd12 (x := 15) (by decide) hc
          have i16 := cd12 (x := 16) (by decide) hc
          have i17 := cd12 (x := 17) (by decide) hc
          have i18 := cd12 (x := 18) (by decide) hc
          have i26 := cd12 (x := 26) (by decide) hc
          have e : (upM m2 12 0 26 1) 12 jj i = m2 12 jj i := by
            have i26 : i ≠ 26 := i26
            unfold upM
            simp [i26]
          rw [e, hF2 _ _ _ (by omega) (by decide), hE _ _ _ (by decide) (by decide) (by omega)]
        · have hk := cdk k12 hc
          have n1 : k ≠ 3 := fun z => hk (by subst z; decide)
          have n2 : k ≠ 4 := fun z => hk (by subst z; decide)
          have n4 : k ≠ 400 := fun z => hk (by subst z; decide)
          have n5 : k ≠ 401 := fun z => hk (by subst z; decide)
          have n6 : k ≠ 2 := fun z => hk (by subst z; decide)
          have nn : k ∉ [1319, 1320, 1321, 1322, 1323] := fun z => hk ((by decide : ∀ c ∈ [1319, 1320, 1321, 1322, 1323], c ∈ wLw) k z)
          rw [up_k k12, hF2 _ _ _ (by omega) nn, hE _ _ _ n6 n2 (by omega)]
      have z2 : ∀ i, (upM m2 12 0 26 1) 2 0 i = mc 2 0 i := fun i => by rw [up_k (by decide), hF2 _ _ _ (by omega) (by decide)]
      have z4' : ∀ i, (upM m2 12 0 26 1) 4 0 i = mc 4 0 i := fun i => by rw [up_k (by decide), hF2 _ _ _ (by omega) (by decide)]
      have zL : ∀ k, (k = 3 ∨ k = 400 ∨ k = 401) → (upM m2 12 0 26 1) k L = mr k L := fun k hk => by
        rw [← hLc k hk]
        funext i
        rw [up_k (by omega), hF2 _ _ _ (by omega) (by rcases hk with rfl | rfl | rfl <;> decide)]
      have z4 : (upM m2 12 0 26 1) 2 0 4 = m 2 0 4 := (z2 4).trans (hE2 4 (by decide) (by decide))
      have z5 : (upM m2 12 0 26 1) 2 0 5 = m 2 0 5 := (z2 5).trans (hE2 5 (by decide) (by decide))
      have z6 : (upM m2 12 0 26 1) 2 0 6 = m 2 0 6 + 1 := (z2 6).trans h6
      have z7 : (upM m2 12 0 26 1) 2 0 7 = L := (z2 7).trans h7
      have zz : ∀ k, k ≠ 12 → k ∉ wLw → (upM m2 12 0 26 1) k 0 = m k 0 := fun k h1 h2 => FrM_f hW h1 h2
      refine ⟨⟨?_, InvC_sm (Sm_of hW (by decide)) aC, ⟨⟨?_, ?_, ?_⟩, ?_⟩, InvM_sm (Sm_of hW (by decide)) aM, InvBd_sm (Sm_of hW (by decide)) aB, InvS_sm (Sm_of hW (by decide)) aS, ⟨?_, ?_⟩, by rw [z6]; omega, some x, ?_, ?_, ?_⟩, by rw [z6]; omega⟩
      · unfold InvH at aH ⊢
        rw [z4, z5, hW 12 0 1 (by decide), zz 300 (by decide) (by decide), zz 301 (by decide) (by decide), zz 302 (by decide) (by decide), zz 303 (by decide) (by decide), zz 1302 (by decide) (by decide), zz 1303 (by decide) (by decide), zz 1304 (by decide) (by decide), zz 1305 (by decide) (by decide), zz 1306 (by decide) (by decide)]
        exact aH
      · rw [up_i (by decide), g14]; decide
      · rw [up_i (by decide), g14]; decide
      · rw [up_i (by decide), g14, z4', h11]
      · rw [up_i (by decide), g14]; intro i c c2; omega
      · rw [z4', h12]; have := b1.1; omega
      · rw [z4', h12, z7]; omega
      · unfold LawC
        rw [z7, Int.toNat_natCast, zL 3 (by omega), zL 400 (by omega), zL 401 (by omega)]
        exact ⟨by omega, by omega, by omega, k3, k4, k5⟩
      · refine ⟨?_, by omega, ?_, ?_, gO⟩
        · rw [up_s]; decide
        · rw [up_k (by decide)]; exact g21
        · exact enN_cg (up_k (by decide)) (fun i _ => ⟨up_k (by decide), up_k (by decide)⟩) (fun i _ => ⟨up_k (by decide), up_k (by decide)⟩) gN
      · exact InvSr_b (m := m) (by rw [z6]; omega) (by rw [zz 8 (by decide) (by decide)]) b3
end
