/-! whole raids -/
def iniS (p : StR) : StR := fun k => if 0 ≤ k ∧ k < 7 then p (20 + k) else if 10 ≤ k ∧ k < 17 then p (20 + k) else if k = 20 then p 16 else 0
def losS (s : StR) : StR := if s 26 = 0 then upS s 26 3 else s
def runF (p : StR) (L : Option LnL) (mv : Int → Int) : Nat → StR → StR
  | 0, s => s
  | k + 1, s => if s 26 = 0 then runF p L mv k (secS p L s (mv (s 22))) else s
def rnM (p : StR) (L : Option LnL) (mv : Int → Int) : Nat → StR → StR
  | 0, s => s
  | k + 1, s => if s 26 = 0 then rnM p L mv k (secM p L s (mv (s 22))) else s
theorem runF_s {p s : StR} {L : Option LnL} {mv : Int → Int} {k : Nat} : runF p L mv (k + 1) s = if s 26 = 0 then runF p L mv k (secS p L s (mv (s 22))) else s := rfl
theorem rnM_s {p s : StR} {L : Option LnL} {mv : Int → Int} {k : Nat} : rnM p L mv (k + 1) s = if s 26 = 0 then rnM p L mv k (secM p L s (mv (s 22))) else s := rfl
theorem runF_e {p s : StR} {L : Option LnL} {mv : Int → Int} {k : Nat} (h : ¬ s 26 = 0) : runF p L mv k s = s := by
  cases k with
  | zero => rfl
  | succ k => rw [runF_s, if_neg h]
theorem rnM_e {p s : StR} {L : Option LnL} {mv : Int → Int} {k : Nat} (h : ¬ s 26 = 0) : rnM p L mv k s = s := by
  cases k with
  | zero => rfl
  | succ k => rw [rnM_s, if_neg h]
theorem losS_k {s : StR} {k : Int} (h : k ≠ 26) : losS s k = s k := by
  unfold losS
  split
  · exact upS_n h
  · rfl
theorem losS_e {s : StR} : ¬ losS s 26 = 0 := by
  unfold losS
  split
  · rw [upS_s]; decide
  · assumption
theorem losS_id {s : StR} (h : ¬ s 26 = 0) : losS s = s := if_neg h
theorem secM_k {p s : StR} {L : Option LnL} {v k : Int} (h : k ≠ 26) : secM p L s v k = secS p L s v k := by
  unfold secM
  split
  · exact upS_n h
  · rfl
theorem secM_l {p s : StR} {L : Option LnL} {v : Int} (hp : OkPa p) (h : s 22 + 1 = p 14) : secM p L s v = losS (secS p L s v) := by
  unfold secM losS
  rw [secS_22 hp]
  by_cases c : secS p L s v 26 = 0
  · rw [if_pos ⟨c, h⟩, if_pos c]
  · rw [if_neg (fun z => c z.1), if_neg c]
theorem secM_n {p s : StR} {L : Option LnL} {v : Int} (hp : OkPa p) (h : ¬ s 22 + 1 = p 14) : secM p L s v = secS p L s v := by
  unfold secM
  rw [secS_22 hp, if_neg (fun z => h z.2)]
theorem rnM_all {p : StR} {L : Option LnL} {mv : Int → Int} (hp : OkPa p) : ∀ (k b : Nat) (s : StR), s 22 + b = p 14 → (b = 0 → ¬ s 26 = 0) → b ≤ k → rnM p L mv k s = losS (runF p L mv b s) := by
  intro k
  induction k with
  | zero =>
    intro b s h1 h2 h3
    have e : b = 0 := by omega
    subst e
    show s = losS s
    rw [losS_id (h2 rfl)]
  | succ k ih =>
    intro b s h1 h2 h3
    by_cases c : s 26 = 0
    · cases b with
      | zero => exact absurd c (h2 rfl)
      | succ b =>
        rw [rnM_s, if_pos c, runF_s, if_pos c]
        cases b with
        | zero =>
          rw [secM_l hp (by omega), rnM_e losS_e]
          rfl
        | succ b =>
          rw [secM_n hp (by omega)]
          exact ih (b + 1) _ (by rw [secS_22 hp]; omega) (fun z => by omega) (by omega)
    · rw [rnM_e c, runF_e c, losS_id c]
theorem rnM_few {p : StR} {L : Option LnL} {mv : Int → Int} (hp : OkPa p) : ∀ (k : Nat) (s : StR), s 22 + k < p 14 → rnM p L mv k s = runF p L mv k s := by
  intro k
  induction k with
  | zero => intro s _; rfl
  | succ k ih =>
    intro s h
    rw [rnM_s, runF_s]
    split
    · rw [secM_n hp (by omega)]
      exact ih _ (by rw [secS_22 hp]; omega)
    · rfl
theorem runF_ok {p : StR} {L : Option LnL} {mv : Int → Int} (hp : OkPa p) : ∀ (k : Nat) (s : StR), OkSt p s → 0 ≤ s 22 → s 22 ≤ 1000 - k → OkSt p (runF p L mv k s) ∧ 0 ≤ runF p L mv k s 22 ∧ runF p L mv k s 22 ≤ s 22 + k := by
  intro k
  induction k with
  | zero => intro s hs h0 h1; exact ⟨hs, h0, by show s 22 ≤ s 22 + ((0 : Nat) : Int); omega⟩
  | succ k ih =>
    intro s hs h0 h1
    rw [runF_s]
    split
    · have h22 := secS_22 (s := s) (L := L) (v := mv (s 22)) hp
      have := ih (secS p L s (mv (s 22))) (okS_sec hp hs) (by omega) (by omega)
      exact ⟨this.1, this.2.1, by omega⟩
    · exact ⟨hs, h0, by omega⟩
theorem okS_los {p s : StR} (hn : p 10 ≤ 7) (hs : OkSt p s) : OkSt p (losS s) := by
  refine okS_of hn hs (fun k hk => losS_k (by omega)) ?_ ?_ ?_ ?_
  · rw [losS_k (by decide)]; exact hs.2.1
  · rw [losS_k (by decide)]; exact hs.2.2.1
  · rw [losS_k (by decide)]; exact hs.2.2.2.1
  · rw [losS_k (by decide)]; exact hs.2.2.2.2
/-- what a raid begins with -/
def OkIn (p : StR) : Prop := (∀ i : Int, 0 ≤ i → i < p 10 → (0 ≤ p (20 + i) ∧ p (20 + i) ≤ 8) ∧ 1 ≤ p (30 + i) ∧ p (30 + i) ≤ 8) ∧ (0 ≤ p 16 ∧ p 16 ≤ 8) ∧ (1 ≤ p 14 ∧ p 14 ≤ 60) ∧ ∀ i : Int, p 10 ≤ i → i < 7 → tbt (p 11) i = 0
theorem ini_c {p : StR} {i : Int} (h0 : 0 ≤ i) (h1 : i < 7) : iniS p i = p (20 + i) := if_pos ⟨h0, h1⟩
theorem ini_r {p : StR} {i : Int} (h0 : 0 ≤ i) (h1 : i < 7) : iniS p (10 + i) = p (30 + i) := by
  unfold iniS
  rw [if_neg (by omega), if_pos (by omega)]
  congr 1
  omega
theorem ini_o {p : StR} {k : Int} (h : 21 ≤ k) : iniS p k = 0 := by
  unfold iniS
  rw [if_neg (by omega), if_neg (by omega), if_neg (by omega)]
theorem ini_20 {p : StR} : iniS p 20 = p 16 := rfl
theorem okS_ini {p : StR} (hp : OkPa p) (hi : OkIn p) : OkSt p (iniS p) := by
  have hn := hp.1
  refine ⟨fun i g0 g1 => ?_, hi.2.1, ?_, ?_, ?_⟩
  · rw [ini_c g0 (by omega), ini_r g0 (by omega)]; exact hi.1 i g0 g1
  · rw [ini_o (by decide)]; decide
  · rw [ini_o (by decide)]; decide
  · rw [ini_o (by decide)]; decide
/-- the class's half as a raid finds it -/
def BasC (m : AMem) (p : StR) : Prop := (∀ i : Int, 0 ≤ i → i < p 10 → m 300 0 i = p (20 + i) ∧ m 301 0 i = p (30 + i)) ∧ m 303 0 7 = p 16 ∧ m 2 0 4 = p 11 ∧ m 303 0 4 = p 14 ∧ m 303 0 6 = p 13
def BasM (m : AMem) (p : StR) : Prop := (∀ i : Int, 0 ≤ i → i < p 10 → m 1302 0 i = p (20 + i) ∧ m 1303 0 i = p (30 + i) ∧ m 1305 0 i = tbt (p 11) i) ∧ m 1306 0 3 = p 16
theorem BasC_fr {W : List Nat} {m m2 : AMem} {p : StR} (h : FrM W m m2) (h2 : ∀ c ∈ [2, 300, 301, 303], c ∉ W) (hL : BasC m p) : BasC m2 p := by
  obtain ⟨a1, a2, a3, a4, a5⟩ := hL
  refine ⟨fun i g0 g1 => ?_, ?_, ?_, ?_, ?_⟩
  · rw [FrM_n h (by decide) (h2 _ (by decide)), FrM_n h (by decide) (h2 _ (by decide))]; exact a1 i g0 g1
  all_goals (rw [FrM_n h (by decide) (h2 _ (by decide))]; assumption)
theorem BasC_S {j : Nat} {m m2 : AMem} {p : StR} (h : FrS wSc j m m2) (hL : BasC m p) : BasC m2 p := BasC_fr (FrS_M h) (by decide) hL
theorem BasM_fr {W : List Nat} {m m2 : AMem} {p : StR} (h : FrM W m m2) (h2 : ∀ c ∈ [1302, 1303, 1305, 1306], c ∉ W) (hL : BasM m p) : BasM m2 p := by
  obtain ⟨a1, a2⟩ := hL
  refine ⟨fun i g0 g1 => ?_, ?_⟩
  · rw [FrM_n h (by decide) (h2 _ (by decide)), FrM_n h (by decide) (h2 _ (by decide)), FrM_n h (by decide) (h2 _ (by decide))]; exact a1 i g0 g1
  · rw [FrM_n h (by decide) (h2 _ (by decide))]; exact a2
section
variable {d : Nat} {p : StR} {L : Option LnL} {Q : Option AV → AMem → Prop}
theorem cc_copyH {j : Nat} {m0 : AMem} (h : ∀ m2, FrS [800, 801] j m0 m2 → (∀ i : Int, 0 ≤ i → i < 7 → m2 800 j i = m0 300 0 i ∧ m2 801 j i = m0 301 0 i) → Q none m2) : MtX yX7_copyPlaces cX7_copyPlaces 4 none (d + 1) [vr 7 j, vr 300 0, vr 301 0] m0 Q := by
  have key : ∀ (r k : Nat) (m : AMem), k + r = 7 → FrS [800, 801] j m0 m → (∀ i : Int, 0 ≤ i → i < k → m 800 j i = m0 300 0 i ∧ m 801 j i = m0 301 0 i) → Y cX7_copyPlaces 4 RX7 (d + 1) none 2 [some (vr 7 j), some (vr 300 0), some (vr 301 0), some (vi k)] [] m (fun r mem2 => rk none r ∧ Q r mem2) := by
    intro r
    induction r with
    | zero =>
      intro k m hk hF hE
      refine sg_X7_copyPlaces_h_2 _ _ _ _ ⟨fun _ => ⟨trivial, h m hF fun i g0 g1 => hE i g0 (by omega)⟩, fun c => by omega⟩
    | succ r ih =>
      intro k m hk hF hE
      have e1 : ((k + 1 : Nat) : Int) = (k : Int) + 1 := by omega
      refine sg_X7_copyPlaces_h_2 _ _ _ _ ⟨fun c => by omega, fun c => ⟨by omega, by omega, by omega, by omega, ?_⟩⟩
      rw [w32i (by omega) (by omega), ← e1]
      refine ih (k + 1) _ (by omega) (FrS_u (FrS_u hF (by decide) (by decide)) (by decide) (by decide)) fun i g0 g1 => ?_
      rw [up_k (k2 := 800) (by decide), up_eq, up_eq]
      by_cases e : i = k
      · subst e
        rw [if_pos rfl, if_pos rfl, FrS_n hF (by decide) (by decide), FrS_n hF (by decide) (by decide)]
        exact ⟨rfl, rfl⟩
      · rw [if_neg e, if_neg e, up_k (by decide)]
        exact hE i g0 (by omega)
  exact Y_met rfl 1 rfl (sg_X7_copyPlaces_h_0 _ _ _ (key 7 0 m0 (by omega) (FrS_refl _ _ _) fun i g0 g1 => by omega))
theorem cc_copyS {j j1 : Nat} {m0 : AMem} (hne : j1 ≠ j) (h : ∀ m2, FrS [800, 801] j m0 m2 → (∀ i : Int, 0 ≤ i → i < 7 → m2 800 j i = m0 800 j1 i ∧ m2 801 j i = m0 801 j1 i) → Q none m2) : MtX yX7_copyPlaces cX7_copyPlaces 4 none (d + 1) [vr 7 j, vr 800 j1, vr 801 j1] m0 Q := by
  have key : ∀ (r k : Nat) (m : AMem), k + r = 7 → FrS [800, 801] j m0 m → (∀ i : Int, 0 ≤ i → i < k → m 800 j i = m0 800 j1 i ∧ m 801 j i = m0 801 j1 i) → Y cX7_copyPlaces 4 RX7 (d + 1) none 2 [some (vr 7 j), some (vr 800 j1), some (vr 801 j1), some (vi k)] [] m (fun r mem2 => rk none r ∧ Q r mem2) := by
    intro r
    induction r with
    | zero =>
      intro k m hk hF hE
      refine sg_X7_copyPlaces_s_2 _ _ _ _ _ _ ⟨fun _ => ⟨trivial, h m hF fun i g0 g1 => hE i g0 (by omega)⟩, fun c => by omega⟩
    | succ r ih =>
      intro k m hk hF hE
      have e1 : ((k + 1 : Nat) : Int) = (k : Int) + 1 := by omega
      refine sg_X7_copyPlaces_s_2 _ _ _ _ _ _ ⟨fun c => by omega, fun c => ⟨by omega, by omega, by omega, by omega, ?_⟩⟩
      rw [w32i (by omega) (by omega), ← e1]
      refine ih (k + 1) _ (by omega) (FrS_u (FrS_u hF (by decide) (by decide)) (by decide) (by decide)) fun i g0 g1 => ?_
      rw [up_k (k2 := 800) (by decide), up_eq, up_eq]
      by_cases e : i = k
      · subst e
        rw [if_pos rfl, if_pos rfl, hF 800 j1 k (Or.inr ⟨rfl, hne⟩), hF 801 j1 k (Or.inr ⟨rfl, hne⟩)]
        exact ⟨rfl, rfl⟩
      · rw [if_neg e, if_neg e, up_k (by decide)]
        exact hE i g0 (by omega)
  exact Y_met rfl 1 rfl (sg_X7_copyPlaces_s_0 _ _ _ _ _ (key 7 0 m0 (by omega) (FrS_refl _ _ _) fun i g0 g1 => by omega))
set_option maxHeartbeats 1000000 in
theorem cc_begin {j : Nat} {m : AMem} (hp : OkPa p) (hB : BasC m p) (h : ∀ m2, FrS [7, 800, 801] j m m2 → RepC m2 j p (iniS p) → Q none m2) : MtX yX7_begin cX7_begin 2 none (d + 2) [vr 7 j, vr 2 0] m Q := by
  have hn := hp.1
  obtain ⟨b1, b2, b3, b4, b5⟩ := hB
  refine Y_met rfl 0 rfl (sg_X7_begin_0 _ _ _ (cc_copyH fun m1 hF hE => ⟨rfl, by decide, by decide, by decide, trivial, ?_⟩))
  refine h _ ?_ ?_
  · exact FrS_u (FrS_u (FrS_u (FrS_u (FrS_u (FrS_u (FrS_u (FrS_u (FrS_u (FrS_u (FrS_u (FrS_mono hF (by decide)) (by decide) (by decide)) (by decide) (by decide)) (by decide) (by decide)) (by decide) (by decide)) (by decide) (by decide)) (by decide) (by decide)) (by decide) (by decide)) (by decide) (by decide)) (by decide) (by decide)) (by decide) (by decide)) (by decide) (by decide)
  · have e1 : ∀ i, m1 303 0 i = m 303 0 i := fun i => FrS_n hF (by decide) (by decide)
    have e2 : m1 2 0 4 = p 11 := by rw [FrS_n hF (by decide) (by decide)]; exact b3
    rw [e1, e1, e1, e2, b2, b4, b5]
    refine ⟨fun i g0 g1 => ?_, ?_, ?_⟩
    · rw [ini_c g0 (by omega), ini_r g0 (by omega)]
      have := hE i g0 (by omega)
      have := b1 i g0 g1
      simp [upM]
      omega
    · simp [upM]
    · simp [upM, iniS]
theorem cc_endB {j : Nat} {s : StR} {m : AMem} (hn : p 10 ≤ 7) (hR : RepC m j p s) (h : ∀ m2, FrS [7] j m m2 → RepC m2 j p (losS s) → Q none m2) : MtX yX7_endOfBreath cX7_endOfBreath 1 none (d + 1) [vr 7 j] m Q := by
  refine Y_met rfl 0 rfl (sg_X7_endOfBreath_0 _ _ _ ?_)
  rw [hR.2.2.2.2.2.2.2.2.2]
  refine ⟨fun c => ⟨trivial, h m (FrS_refl _ _ _) (by rw [losS_id c]; exact hR)⟩, fun c => ⟨trivial, h _ (FrS_u (FrS_refl _ _ _) (by decide) (by decide)) ?_⟩⟩
  unfold losS
  rw [if_pos c]
  exact RepC_u (q := 13) (x := 26) hn (by decide) hR
theorem cc_play {j sh : Nat} {s0 : StR} {m0 : AMem} {mv : Int → Int} (hp : OkPa p) (hbr : 0 ≤ p 14 ∧ p 14 ≤ 60) (hs0 : OkSt p s0) (h0 : s0 22 = 0) (hH : HalfC m0 p L) (hR : RepC m0 j p s0)
    (hmv : ∀ (d2 : Nat) (i : Int) (m2 : AMem) (Q2 : Option AV → AMem → Prop), FrS wSc j m0 m2 → 0 ≤ i → i < 60 → Q2 (some (vi (mv i))) m2 → MtX yX10_moveAt cX10_moveAt 2 (some .int) (d2 + 1) [vr 10 sh, vi i] m2 Q2)
    (h : ∀ m2, FrS wSc j m0 m2 → RepC m2 j p (losS (runF p L mv (p 14).toNat s0)) → Q none m2) : MtX yX7_play cX7_play 4 none (d + 6) [vr 7 j, vr 2 0, vr 10 sh] m0 Q := by
  have hn := hp.1
  have key : ∀ (r : Nat) (s : StR) (m : AMem), s 22 + r = p 14 → 0 ≤ s 22 → OkSt p s → FrS wSc j m0 m → RepC m j p s → runF p L mv r s = runF p L mv (p 14).toNat s0 → Y cX7_play 4 RX7 (d + 6) none 2 [some (vr 7 j), some (vr 2 0), some (vr 10 sh), some (vi (s 22))] [] m (fun r mem2 => rk none r ∧ Q r mem2) := by
    intro r
    induction r with
    | zero =>
      intro s m hr h22 hs hF hR he
      refine sg_X7_play_2 _ _ _ _ _ ⟨fun _ => ?_, fun c => by rw [hR.2.1.2.1] at c; omega⟩
      exact cc_endB hn.2 hR fun m2 hF2 hR2 => ⟨rfl, trivial, h m2 (FrS_trans hF (FrS_mono hF2 (by decide))) (by rw [← he]; exact hR2)⟩
    | succ r ih =>
      intro s m hr h22 hs hF hR he
      refine sg_X7_play_2 _ _ _ _ _ ⟨fun c => by rw [hR.2.1.2.1] at c; omega, fun c => ?_⟩
      rw [hR.2.2.2.2.2.2.2.2.2]
      refine ⟨fun c2 => ?_, fun c2 => ?_⟩
      · rw [runF_e c2] at he
        exact cc_endB hn.2 hR fun m2 hF2 hR2 => ⟨rfl, trivial, h m2 (FrS_trans hF (FrS_mono hF2 (by decide))) (by rw [← he]; exact hR2)⟩
      · refine hmv _ _ _ _ hF h22 (by omega) ⟨_, rfl, ?_⟩
        refine cc_second hp hs (by omega) (HalfC_S hF hH) hR fun m2 hF2 hR2 => ⟨rfl, ?_⟩
        have e := secS_22 (s := s) (L := L) (v := mv (s 22)) hp
        have := ih (secS p L s (mv (s 22))) m2 (by omega) (by omega) (okS_sec hp hs) (FrS_trans hF hF2) hR2 (by rw [← he, runF_s, if_pos c2])
        rw [e] at this
        rw [w32i (by omega) (by omega)]
        exact this
  refine Y_met rfl 1 rfl (sg_X7_play_0 _ _ _ _ ?_)
  have := key (p 14).toNat s0 m0 (by omega) (by omega) hs0 (FrS_refl _ _ _) hR rfl
  rwa [h0] at this
/-! the reference -/
theorem BasM_or {a : Int} (h : a = 0 ∨ a = 1) : ¬ a = 1 ↔ a = 0 := by omega
set_option maxHeartbeats 1000000 in
theorem cm_begin {m0 : AMem} (hp : OkPa p) (hi : OkIn p) (hN : m0 12 0 1 = p 10) (hB : BasM m0 p) (h : ∀ m2, FrM (5036 :: wMo) m0 m2 → RepM m2 p (iniS p) → m2 12 0 31 = 0 → Q none m2) : MtX yX12_beginRaid cX12_beginRaid 2 none (d + 1) [vr 12 0] m0 Q := by
  have hn := hp.1
  obtain ⟨hN1, hN2⟩ := N_le hp
  obtain ⟨b1, b2⟩ := hB
  have key : ∀ (r k : Nat) (m : AMem), k + r = (p 10).toNat → FrM (5036 :: wMo) m0 m → (∀ i : Int, 0 ≤ i → i < k → m 1327 0 i = p (20 + i) ∧ m 1328 0 i = p (30 + i)) → ((0 ≤ m 12 0 36 ∧ m 12 0 36 < 128) ∧ ∀ i : Int, 0 ≤ i → i < 7 → tbt (m 12 0 36) i = if i < k then tbt (p 11) i else 0) → Y cX12_beginRaid 2 RX12 (d + 1) none 7 [some (vr 12 0), some (vi k)] [] m (fun r mem2 => rk none r ∧ Q r mem2) := by
    intro r
    induction r with
    | zero =>
      intro k m hk hF hE hI
      have e36 : m 12 0 36 = p 11 := b_ext hI.1.1 hI.1.2 hp.2.2.1 hp.2.2.2 fun i g0 g1 => by
        rw [hI.2 i g0 g1]
        split
        · rfl
        · exact (hi.2.2.2 i (by omega) g1).symm
      have hm1 : m 12 0 1 = p 10 := by rw [hF 12 0 1 (by decide)]; exact hN
      refine sg_X12_beginRaid_7 _ _ _ ⟨fun _ => ⟨by decide, trivial, h _ ?_ ?_ ?_⟩, fun c => by omega⟩
      · exact FrM_up (FrM_up (FrM_up (FrM_up (FrM_up (FrM_up (FrM_up hF (by decide)) (by decide)) (by decide)) (by decide)) (by decide)) (by decide)) (by decide)
      · have e3 : m 1306 0 3 = p 16 := by rw [FrM_n hF (by decide) (by decide)]; exact b2
        rw [e3]
        refine ⟨fun i g0 g1 => ?_, ?_, ?_⟩
        · rw [ini_c g0 (by omega), ini_r g0 (by omega)]
          exact hE i g0 (by omega)
        · simpa [upM] using e36
        · simp [upM, iniS]
      · simp [upM]
    | succ r ih =>
      intro k m hk hF hE hI
      have hm1 : m 12 0 1 = p 10 := by rw [hF 12 0 1 (by decide)]; exact hN
      have e1 : ((k + 1 : Nat) : Int) = (k : Int) + 1 := by omega
      have f2 : m 1302 0 k = p (20 + k) := by rw [FrM_n hF (by decide) (by decide)]; exact (b1 k (by omega) (by omega)).1
      have f3 : m 1303 0 k = p (30 + k) := by rw [FrM_n hF (by decide) (by decide)]; exact (b1 k (by omega) (by omega)).2.1
      have f5 : m 1305 0 k = tbt (p 11) k := by rw [FrM_n hF (by decide) (by decide)]; exact (b1 k (by omega) (by omega)).2.2
      have t01 := tb01 hp.2.2.1 hp.2.2.2 (i := k) (by omega) (by omega)
      refine sg_X12_beginRaid_7 _ _ _ ⟨fun c => by omega, fun c => ⟨by omega, by omega, by omega, by omega, by omega, ?_⟩⟩
      rw [f2, f3, f5, w32i (by omega) (by omega), ← e1]
      have hF2 : FrM (5036 :: wMo) m0 (upM (upM m 1327 0 k (p (20 + k))) 1328 0 k (p (30 + k))) := FrM_uk (FrM_uk hF (by decide) (by decide)) (by decide) (by decide)
      have hE2 : ∀ i : Int, 0 ≤ i → i < ((k + 1 : Nat) : Int) → (upM (upM m 1327 0 k (p (20 + k))) 1328 0 k (p (30 + k))) 1327 0 i = p (20 + i) ∧ (upM (upM m 1327 0 k (p (20 + k))) 1328 0 k (p (30 + k))) 1328 0 i = p (30 + i) := by
        intro i g0 g1
        rw [up_k (k2 := 1327) (by decide), up_eq, up_eq]
        by_cases e : i = k
        · subst e
          rw [if_pos rfl, if_pos rfl]
          exact ⟨rfl, rfl⟩
        · rw [if_neg e, if_neg e, up_k (by decide)]
          exact hE i g0 (by omega)
      refine ⟨fun c2 => ih (k + 1) _ (by omega) hF2 hE2 ?_, fun c2 => ih (k + 1) _ (by omega) (FrM_up hF2 (by decide)) ?_ ?_⟩
      · refine ⟨hI.1, fun i g0 g1 => ?_⟩
        have := hI.2 i g0 g1
        show tbt (m 12 0 36) i = _
        rw [this]
        by_cases e : i = k
        · subst e
          rw [if_neg (by omega), if_pos (by omega)]
          omega
        · by_cases e2 : i < k
          · rw [if_pos e2, if_pos (by omega)]
          · rw [if_neg e2, if_neg (by omega)]
      · intro i g0 g1
        have := hE2 i g0 g1
        exact this
      · have ob := or_rg hI.1.1 hI.1.2 (i := k) (by omega) (by omega)
        rw [up_s]
        refine ⟨ob, fun i g0 g1 => ?_⟩
        rw [tb_or hI.1.1 hI.1.2 (by omega) (by omega) g0 g1, hI.2 i g0 g1]
        by_cases e : i = k
        · subst e
          rw [if_pos rfl, if_pos (by omega)]
          exact c2.symm
        · rw [if_neg e]
          by_cases e2 : i < k
          · rw [if_pos e2, if_pos (by omega)]
          · rw [if_neg e2, if_neg (by omega)]
  refine Y_met rfl 1 rfl (sg_X12_beginRaid_0 _ _ ?_)
  refine key (p 10).toNat 0 _ (by omega) (FrM_up (FrM_refl _ _) (by decide)) (fun i g0 g1 => by omega) ⟨by rw [up_s]; decide, fun i g0 g1 => ?_⟩
  rw [up_s, if_neg (by omega)]
  exact b_a7 (P := fun i => tbt 0 i = 0) (by decide +kernel) g0 g1
theorem cm_goRaid {sh : Int} {most : Nat} {m0 : AMem} {mv : Int → Int} (hp : OkPa p) (hi : OkIn p) (hmo : most ≤ 60) (hH : HalfM m0 p L) (hB : BasM m0 p)
    (hmv : ∀ (d2 : Nat) (i : Int) (m2 : AMem) (Q2 : Option AV → AMem → Prop), FrM (5036 :: wMo) m0 m2 → 0 ≤ i → i < 60 → Q2 (some (vi (mv i))) m2 → MtX yX12_moveAt cX12_moveAt 3 (some .int) (d2 + 2) [vr 12 0, vi sh, vi i] m2 Q2)
    (h : ∀ m2, FrM (5036 :: wMo) m0 m2 → RepM m2 p (rnM p L mv most (iniS p)) → m2 12 0 31 = rnM p L mv most (iniS p) 22 → Q none m2) : MtX yX12_goRaid cX12_goRaid 3 none (d + 7) [vr 12 0, vi sh, vi most] m0 Q := by
  have hn := hp.1
  refine Y_met rfl 0 rfl (sg_X12_goRaid_0 _ _ _ _ (cm_begin hp hi hH.1 hB fun m1 hF1 hR1 h1 => ⟨rfl, ?_⟩))
  have key : ∀ (r : Nat) (s : StR) (m : AMem), s 22 + r = most → 0 ≤ s 22 → OkSt p s → FrM (5036 :: wMo) m0 m → RepM m p s → m 12 0 31 = s 22 → rnM p L mv r s = rnM p L mv most (iniS p) → Y cX12_goRaid 3 RX12 (d + 7) none 4 [some (vr 12 0), some (vi sh), some (vi most)] [] m (fun r mem2 => rk none r ∧ Q r mem2) := by
    intro r
    induction r with
    | zero =>
      intro s m hr h22 hs hF hR h31 he
      have he : s = rnM p L mv most (iniS p) := he
      have hq := h m hF (by rw [← he]; exact hR) (by rw [← he]; exact h31)
      exact sg_X12_goRaid_4 _ _ _ _ ⟨fun _ => ⟨trivial, hq⟩, fun _ => ⟨fun _ => ⟨trivial, hq⟩, fun c => by omega⟩⟩
    | succ r ih =>
      intro s m hr h22 hs hF hR h31 he
      refine sg_X12_goRaid_4 _ _ _ _ ?_
      rw [hR.2.2.2.2.1, h31]
      refine ⟨fun c => ⟨trivial, ?_⟩, fun c => ⟨fun c2 => by omega, fun _ => ?_⟩⟩
      · rw [rnM_e c] at he
        exact h m hF (by rw [← he]; exact hR) (by rw [← he]; exact h31)
      · refine hmv _ _ _ _ hF h22 (by omega) ⟨_, rfl, ?_⟩
        have hH2 : HalfM m p L := HalfM_fr hF (by decide) hH
        refine cm_second hp hs (by omega) c hH2 hR h31 fun m2 hF2 hR2 h312 => ⟨rfl, ?_⟩
        have e22 : secM p L s (mv (s 22)) 22 = s 22 + 1 := by rw [secM_k (by decide), secS_22 hp]
        refine ih (secM p L s (mv (s 22))) m2 (by omega) (by omega) ?_ (FrM_trans hF (FrM_mono hF2 (by decide))) hR2 h312 (by rw [← he, rnM_s, if_pos c])
        refine okS_of hn.2 (okS_sec (L := L) (v := mv (s 22)) hp hs) (fun k hk => secM_k (by omega)) ?_ ?_ ?_ ?_
        · rw [secM_k (by decide)]; exact (okS_sec (L := L) (v := mv (s 22)) hp hs).2.1
        · rw [secM_k (by decide)]; exact (okS_sec (L := L) (v := mv (s 22)) hp hs).2.2.1
        · rw [secM_k (by decide)]; exact (okS_sec (L := L) (v := mv (s 22)) hp hs).2.2.2.1
        · rw [secM_k (by decide)]; exact (okS_sec (L := L) (v := mv (s 22)) hp hs).2.2.2.2
  exact key most (iniS p) m1 (by rw [ini_o (by decide)]; omega) (by rw [ini_o (by decide)]; decide) (okS_ini hp hi) hF1 hR1 (by rw [h1, ini_o (by decide)]) rfl
end
