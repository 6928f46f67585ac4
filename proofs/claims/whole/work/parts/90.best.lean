/-! best -/
section
variable {d : Nat} {p s : StR} {L : Option LnL} {Q : Option AV → AMem → Prop}
theorem p5_le {n : Nat} (hn : n ≤ 5) : 5 ^ n ≤ 3125 := Nat.pow_le_pow_right (by decide) hn
theorem cm_allMoves {m : AMem} {n : Nat} (hn : n ≤ 5) (h : Q (some (vi ((5 ^ n : Nat) : Int))) m) : MtX yX12_allMoves cX12_allMoves 3 (some .int) (d + 1) [vi n] m Q := by
  have loop : ∀ (r k : Nat), k + r = n → Y cX12_allMoves 3 RX12 (d + 1) none 4 [some (vi n), some (vi ((5 ^ k : Nat) : Int)), some (vi k)] [] m (fun r mem2 => rk (some .int) r ∧ Q r mem2) := by
    intro r
    induction r with
    | zero =>
      intro k hk
      have e : k = n := by omega
      subst e
      exact sg_X12_allMoves_4 _ _ _ _ _ ⟨fun _ => ⟨trivial, h⟩, fun c => by omega⟩
    | succ r ih =>
      intro k hk
      have := p5_le (n := k) (by omega)
      refine sg_X12_allMoves_4 _ _ _ _ _ ⟨fun c => by omega, fun _ => ?_⟩
      obtain ⟨x, hx⟩ : ∃ x : Nat, x = 5 ^ k := ⟨_, rfl⟩
      have e : (x : Int) * 5 = ((5 ^ (k + 1) : Nat) : Int) := by rw [Nat.pow_succ, ← hx]; omega
      rw [← hx] at this ⊢
      rw [w32i (z := (x : Int) * 5) (by omega) (by omega), w32n (by omega), e]
      exact ih (k + 1) (by omega)
  exact Y_met rfl 2 rfl (sg_X12_allMoves_0 _ _ _ (loop n 0 (by omega)))
theorem cm_layMoves {m : AMem} {n i : Nat} (hn : n ≤ 5) (hi : i < 5 ^ n) (h : ∀ m2, FrM [1337] m m2 → (∀ j : Int, 0 ≤ j → j < n → m2 1337 0 j = dg n i j) → Q none m2) : MtX yX12_layMoves cX12_layMoves 5 none (d + 1) [vr 12 0, vi n, vi i] m Q := by
  have h5 := p5_le hn
  have loop : ∀ (r : Nat) (mm : AMem), r ≤ n → FrM [1337] m mm → (∀ j : Int, (r : Int) ≤ j → j < n → mm 1337 0 j = dg n i j) → Y cX12_layMoves 5 RX12 (d + 1) none 7 [some (vr 12 0), some (vi n), some (vi i), some (vi ((i / 5 ^ (n - r) : Nat) : Int)), some (vi ((r : Int) - 1))] [] mm (fun r mem2 => rk none r ∧ Q r mem2) := by
    intro r
    induction r with
    | zero =>
      intro mm hr hF hD
      exact sg_X12_layMoves_7 _ _ _ _ _ _ ⟨fun _ => ⟨trivial, h mm hF fun j j0 j1 => hD j (by omega) j1⟩, fun c => by omega⟩
    | succ r ih =>
      intro mm hr hF hD
      refine sg_X12_layMoves_7 _ _ _ _ _ _ ⟨fun c => by omega, fun _ => ?_⟩
      have hle : i / 5 ^ (n - (r + 1)) ≤ i := Nat.div_le_self _ _
      have e1 : Int.tmod ((i / 5 ^ (n - (r + 1)) : Nat) : Int) 5 = dg n i r := by
        unfold dg
        rw [show n - 1 - (r : Int).toNat = n - (r + 1) by omega]
        generalize i / 5 ^ (n - (r + 1)) = x
        exact (Int.tmod_eq_emod_of_nonneg (by omega)).trans (by omega)
      have e2 : w32 (Int.tdiv ((i / 5 ^ (n - (r + 1)) : Nat) : Int) 5) = ((i / 5 ^ (n - r) : Nat) : Int) := by
        rw [show n - r = (n - (r + 1)) + 1 by omega, Nat.pow_succ, ← Nat.div_div_eq_div_mul]
        generalize i / 5 ^ (n - (r + 1)) = x at *
        have e3 : Int.tdiv (x : Int) 5 = ((x / 5 : Nat) : Int) := (Int.tdiv_eq_ediv_of_nonneg (by omega)).trans (by omega)
        rw [e3]
        exact w32i (by omega) (by omega)
      rw [e1, e2, w32i (z := ((r + 1 : Nat) : Int) - 1 + -1) (by omega) (by omega), show ((r + 1 : Nat) : Int) - 1 + -1 = (r : Int) - 1 by omega, show ((r + 1 : Nat) : Int) - 1 = r by omega]
      refine ⟨by omega, ih _ (by omega) (FrM_uk hF (by decide) (by decide)) fun j j0 j1 => ?_⟩
      rw [up_eq]
      by_cases c : j = r
      · rw [if_pos c, c]
      · rw [if_neg c]; exact hD j (by omega) j1
  refine Y_met rfl 2 rfl (sg_X12_layMoves_0 _ _ _ _ ?_)
  have := loop n m (Nat.le_refl _) (FrM_refl _ _) fun j j0 j1 => by omega
  rw [Nat.sub_self, Nat.pow_zero, Nat.div_one] at this
  rw [w32i (z := (n : Int) - 1) (by omega) (by omega)]
  exact this
theorem cm_goMoves {m0 : AMem} {n : Nat} {mv : Int → Int} (hp : OkPa p) (hi : OkIn p) (hn5 : n ≤ 5) (hH : HalfM m0 p L) (hB : BasM m0 p) (hmv : ∀ j : Int, 0 ≤ j → j < n → m0 1337 0 j = mv j) (h : ∀ m2, FrM (5036 :: wMo) m0 m2 → RepM m2 p (gmS p L n mv) → Q none m2) : MtX yX12_goMoves cX12_goMoves 2 none (d + 7) [vr 12 0, vi n] m0 Q := by
  have hn := hp.1
  have eG : rnM p L (mvQ n mv) 60 (iniS p) = gmS p L n mv := fin_M hp hi
  refine Y_met rfl 0 rfl (sg_X12_goMoves_0 _ _ _ (cm_begin hp hi hH.1 hB fun m1 hF1 hR1 h1 => ⟨rfl, ?_⟩))
  have key : ∀ (r : Nat) (s : StR) (m : AMem), s 22 + r = 60 → 0 ≤ s 22 → OkSt p s → FrM (5036 :: wMo) m0 m → RepM m p s → m 12 0 31 = s 22 → rnM p L (mvQ n mv) r s = gmS p L n mv → Y cX12_goMoves 2 RX12 (d + 7) none 4 [some (vr 12 0), some (vi n)] [] m (fun r mem2 => rk none r ∧ Q r mem2) := by
    intro r
    induction r with
    | zero =>
      intro s m hr h22 hs hF hR h31 he
      have he : s = gmS p L n mv := he
      have ne : ¬ s 26 = 0 := by rw [he]; exact losS_e
      refine sg_X12_goMoves_4 _ _ _ ?_
      rw [hR.2.2.2.2.1]
      exact ⟨fun _ => ⟨trivial, h m hF (by rw [← he]; exact hR)⟩, fun c => absurd c ne⟩
    | succ r ih =>
      intro s m hr h22 hs hF hR h31 he
      refine sg_X12_goMoves_4 _ _ _ ?_
      rw [hR.2.2.2.2.1, h31]
      have nx : s 26 = 0 → ∀ v : Int, v = mvQ n mv (s 22) → MtX yX12_goSecond cX12_goSecond 4 none (d + 6) [vr 12 0, vi v] m (fun r m3 => r = none ∧ Y cX12_goMoves 2 RX12 (d + 7) none 4 [some (vr 12 0), some (vi n)] [] m3 (fun r mem2 => rk none r ∧ Q r mem2)) := by
        intro c v hv
        subst hv
        have hH2 : HalfM m p L := HalfM_fr hF (by decide) hH
        refine cm_second hp hs (by omega) c hH2 hR h31 fun m2 hF2 hR2 h312 => ⟨rfl, ?_⟩
        have e22 : secM p L s (mvQ n mv (s 22)) 22 = s 22 + 1 := by rw [secM_k (by decide), secS_22 hp]
        refine ih (secM p L s (mvQ n mv (s 22))) m2 (by omega) (by omega) ?_ (FrM_trans hF (FrM_mono hF2 (by decide))) hR2 h312 (by rw [← he, rnM_s, if_pos c])
        refine okS_of hn.2 (okS_sec (L := L) (v := mvQ n mv (s 22)) hp hs) (fun k hk => secM_k (by omega)) ?_ ?_ ?_ ?_
        · rw [secM_k (by decide)]; exact (okS_sec (L := L) (v := mvQ n mv (s 22)) hp hs).2.1
        · rw [secM_k (by decide)]; exact (okS_sec (L := L) (v := mvQ n mv (s 22)) hp hs).2.2.1
        · rw [secM_k (by decide)]; exact (okS_sec (L := L) (v := mvQ n mv (s 22)) hp hs).2.2.2.1
        · rw [secM_k (by decide)]; exact (okS_sec (L := L) (v := mvQ n mv (s 22)) hp hs).2.2.2.2
      refine ⟨fun c => ⟨trivial, ?_⟩, fun c => ⟨fun c2 => nx c _ ?_, fun c2 => ⟨by omega, nx c _ ?_⟩⟩⟩
      · rw [rnM_e c] at he
        exact h m hF (by rw [← he]; exact hR)
      · exact (if_neg (by omega)).symm
      · rw [FrM_n hF (by decide) (by decide), hmv _ h22 (by omega)]
        exact (if_pos (by omega)).symm
  exact key 60 (iniS p) m1 (by rw [ini_22]; decide) (by rw [ini_22]; decide) (okS_ini hp hi) hF1 hR1 (by rw [h1, ini_22]) eG
def wBs : List Nat := [5036, 5029, 5030, 5031, 5032, 5033, 5034, 5035, 1327, 1328, 1324, 1325, 1337, 1338, 5039, 5040, 5041]
def bsM (m : AMem) (n : Nat) (b : BsT) : Prop := m 12 0 39 = b.1 ∧ ∀ j : Int, 0 ≤ j → j < n → m 1338 0 j = b.2 j
theorem cm_keepBest {m : AMem} {n : Nat} (hn : n ≤ 5) (h : ∀ m2, FrM [1338, 5040] m m2 → m2 12 0 40 = 1 → (∀ j : Int, 0 ≤ j → j < n → m2 1338 0 j = m 1337 0 j) → Q none m2) : MtX yX12_keepBest cX12_keepBest 3 none (d + 1) [vr 12 0, vi n] m Q := by
  have loop : ∀ (r k : Nat) (mm : AMem), k + r = n → FrM [1338, 5040] m mm → mm 12 0 40 = 1 → (∀ j : Int, 0 ≤ j → j < k → mm 1338 0 j = m 1337 0 j) → Y cX12_keepBest 3 RX12 (d + 1) none 7 [some (vr 12 0), some (vi n), some (vi k)] [] mm (fun r mem2 => rk none r ∧ Q r mem2) := by
    intro r
    induction r with
    | zero =>
      intro k mm hk hF h40 hD
      have e : k = n := by omega
      subst e
      exact sg_X12_keepBest_7 _ _ _ _ ⟨fun _ => ⟨trivial, h mm hF h40 hD⟩, fun c => by omega⟩
    | succ r ih =>
      intro k mm hk hF h40 hD
      refine sg_X12_keepBest_7 _ _ _ _ ⟨fun c => by omega, fun _ => ?_⟩
      rw [w32n (by omega)]
      refine ⟨by omega, by omega, ih (k + 1) _ (by omega) (FrM_uk hF (by decide) (by decide)) (by rw [up_k (by decide)]; exact h40) fun j j0 j1 => ?_⟩
      rw [up_eq]
      by_cases c : j = k
      · rw [if_pos c, c]; exact FrM_n hF (by decide) (by decide)
      · rw [if_neg c]; exact hD j j0 (by omega)
  exact Y_met rfl 1 rfl (sg_X12_keepBest_0 _ _ _ (loop n 0 _ (by omega) (FrM_up (FrM_refl _ _) (by decide)) up_s fun j j0 j1 => by omega))
theorem bN_gt {n : Nat} {f : Int → Int} (hp : OkPa p) (hi : OkIn p) : -1000 < (bNx (-1) p L n f).1 := by
  have hpos : 0 < 5 ^ n := Nat.pow_pos (by decide)
  have low := gm_low (L := L) (n := n) (mv := dg n 0) hp hi
  unfold bNx
  rw [show 5 ^ n = (5 ^ n - 1) + 1 by omega, fdS_s, if_pos (show iniW (-1) < wW (-1) p L n 0 from low)]
  exact Int.lt_of_lt_of_le low (fd_mono (b := (wW (-1) p L n 0, dD n 0)) _)
set_option maxHeartbeats 1000000 in
theorem cm_bestL {m0 : AMem} {n : Nat} {a : Int} (hp : OkPa p) (hi : OkIn p) (hn : 1 ≤ n ∧ n ≤ 5) (hH : HalfM m0 p L) (hB : BasM m0 p) (h : ∀ m2, FrM wBs m0 m2 → (∃ f, bsM m2 n (bNx (-1) p L n f)) → (0 ≤ a → ((n : Int) ≤ a → Q (some (vi (-2))) m2) ∧ (¬ (n : Int) ≤ a → Q (some (vi (m2 1338 0 a))) m2)) ∧ (¬ 0 ≤ a → Q (some (vi (m2 12 0 39))) m2)) : Y cX12_best 5 RX12 (d + 8) none 25 [some (vr 12 0), some (vi n), some (vi a), some (vi 0), none] [] (upM m0 12 0 40 0) (fun r mem2 => rk (some .int) r ∧ Q r mem2) := by
  have h5 := p5_le hn.2
  have loop : ∀ (r i : Nat) (mm : AMem) (b : BsT), i + r = 5 ^ n → FrM wBs m0 mm → ((i = 0 ∧ mm 12 0 40 = 0 ∧ b = (-1000, fun _ => 0)) ∨ (1 ≤ i ∧ mm 12 0 40 = 1 ∧ bsM mm n b)) → fdS (wW (-1) p L n) (dD n) r i b = bNx (-1) p L n (fun _ => 0) → Y cX12_best 5 RX12 (d + 8) none 25 [some (vr 12 0), some (vi n), some (vi a), some (vi i), none] [] mm (fun r mem2 => rk (some .int) r ∧ Q r mem2) := by
    intro r
    induction r with
    | zero =>
      intro i mm b hir hF hst hZ
      have hpos : 0 < 5 ^ n := Nat.pow_pos (by decide)
      have hZ : b = bNx (-1) p L n (fun _ => 0) := hZ
      refine sg_X12_best_25 _ _ _ _ _ (cm_allMoves hn.2 ⟨_, rfl, fun _ => ?_, fun c => by omega⟩)
      rcases hst with ⟨i0, _⟩ | ⟨_, _, hb⟩
      · omega
      · rw [hZ] at hb
        have q := h mm hF ⟨_, hb⟩
        exact ⟨fun c => ⟨fun c2 => ⟨trivial, (q.1 c).1 c2⟩, fun c2 => ⟨by omega, trivial, (q.1 c).2 c2⟩⟩, fun c => ⟨trivial, q.2 c⟩⟩
    | succ r ih =>
      intro i mm b hir hF hst hZ
      rw [fdS_s] at hZ
      refine sg_X12_best_25 _ _ _ _ _ (cm_allMoves hn.2 ⟨_, rfl, fun c => by omega, fun _ => ?_⟩)
      refine cm_layMoves hn.2 (by omega) fun m1 hF1 hD1 => ⟨rfl, ?_⟩
      have hFa : FrM wBs m0 m1 := FrM_trans hF (FrM_mono hF1 (by decide))
      refine cm_goMoves (mv := dg n i) hp hi hn.2 (HalfM_fr hFa (by decide) hH) (BasM_fr hFa (by decide) hB) hD1 fun m2 hF2 hR2 => ⟨rfl, ?_⟩
      have hFb : FrM wBs m0 m2 := FrM_trans hFa (FrM_mono hF2 (by decide))
      have hok : OkSt p (gmS p L n (dg n i)) := fin_ok hp hi
      refine cm_pts hR2 hok ⟨_, rfl, cm_ths hp (HalfM_fr hFb (by decide) hH) hR2 ⟨_, rfl, ?_⟩⟩
      have hq := pop_rg hok.2.2.2.1.1 hok.2.2.2.1.2
      have rg : -10 ≤ ptS (gmS p L n (dg n i)) - thS p (gmS p L n (dg n i)) ∧ ptS (gmS p L n (dg n i)) - thS p (gmS p L n (dg n i)) ≤ 10 := by
        unfold ptS thS pcS
        (repeat' split) <;> omega
      have eW1 : ptS (gmS p L n (dg n i)) - thS p (gmS p L n (dg n i)) = wW (-1) p L n i := by unfold wW wV; rw [if_pos rfl]
      have low : -1000 < wW (-1) p L n i := gm_low hp hi
      rw [w32i (z := ptS (gmS p L n (dg n i)) - thS p (gmS p L n (dg n i))) (by omega) (by omega), eW1, w32n (by omega)]
      have k40 : m2 12 0 40 = mm 12 0 40 := by rw [hF2 12 0 40 (by decide), hF1 12 0 40 (by decide)]
      have k39 : m2 12 0 39 = mm 12 0 39 := by rw [hF2 12 0 39 (by decide), hF1 12 0 39 (by decide)]
      have kD : ∀ j : Int, 0 ≤ j → j < n → m2 1337 0 j = dg n i j := fun j j0 j1 => (FrM_n hF2 (by decide) (by decide)).trans (hD1 j j0 j1)
      have keep : b.1 < wW (-1) p L n i → MtX yX12_keepBest cX12_keepBest 3 none (d + 7) [vr 12 0, vi n] (upM m2 12 0 39 (wW (-1) p L n i)) (fun r m18 => r = none ∧ Y cX12_best 5 RX12 (d + 8) none 25 [some (vr 12 0), some (vi n), some (vi a), some (vi ((i + 1 : Nat) : Int)), some (vi (wW (-1) p L n i))] [] m18 (fun r mem2 => rk (some .int) r ∧ Q r mem2)) := by
        intro c
        rw [if_pos c] at hZ
        refine cm_keepBest hn.2 fun m3 hF3 h40 hD3 => ⟨rfl, ?_⟩
        refine Y_fg (by exact ⟨rfl, rfl, rfl, rfl, trivial⟩) (ih (i + 1) m3 _ (by omega) (FrM_trans (FrM_up hFb (by decide)) (FrM_mono hF3 (by decide))) (Or.inr ⟨by omega, h40, ?_, fun j j0 j1 => ?_⟩) hZ)
        · rw [hF3 12 0 39 (by decide), up_s]
        · rw [hD3 j j0 j1, up_k (by decide), kD j j0 j1]
          exact (if_pos j1).symm
      refine ⟨fun c => ?_, fun c => ⟨fun c2 => ?_, fun c2 => ?_⟩⟩
      · refine keep ?_
        rcases hst with ⟨_, _, hb⟩ | ⟨_, h1, _⟩
        · rw [hb]; exact low
        · omega
      · refine keep ?_
        rcases hst with ⟨_, h0, _⟩ | ⟨_, _, hb⟩
        · omega
        · rw [k39, hb.1] at c2; exact c2
      · rcases hst with ⟨_, h0, _⟩ | ⟨_, h1, hb⟩
        · omega
        · rw [k39, hb.1] at c2
          rw [if_neg c2] at hZ
          refine Y_fg (by exact ⟨rfl, rfl, rfl, rfl, trivial⟩) (ih (i + 1) m2 b (by omega) hFb (Or.inr ⟨by omega, k40.trans h1, k39.trans hb.1, fun j j0 j1 => ?_⟩) hZ)
          rw [FrM_n hF2 (by decide) (by decide), FrM_n hF1 (by decide) (by decide)]
          exact hb.2 j j0 j1
  have := loop (5 ^ n) 0 (upM m0 12 0 40 0) (-1000, fun _ => 0) (by omega) (FrM_up (FrM_refl _ _) (by decide)) (Or.inl ⟨rfl, up_s, rfl⟩) rfl
  exact this
end
