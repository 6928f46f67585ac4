/-! the walk of the class over all moves -/
section
variable {p s : StR} {L : Option LnL}
def wW (who : Int) (p : StR) (L : Option LnL) (n i : Nat) : Int := wV who p (gmS p L n (dg n i))
def dD (n i : Nat) : Int → Int := fun j => if j < n then dg n i j else 0
def seO (m : AMem) (p : StR) (L : Option LnL) (who : Int) (n : Nat) : Prop := HalfC m p L ∧ m 2 0 4 = p 11 ∧ m 8 0 6 = who ∧ m 8 0 4 = eW who p ∧ m 8 0 5 = n
theorem seO_f {m m2 : AMem} {who : Int} {n l : Nat} (h : FrX l m m2) (hO : seO m p L who n) : seO m2 p L who n :=
  ⟨HalfC_fr (FrX_M h) (by decide) hO.1, (FrX_n h (by decide) (by decide)).trans hO.2.1, (h 8 0 6 (Or.inr (Or.inr (Or.inl ⟨rfl, by decide⟩)))).trans hO.2.2.1, (h 8 0 4 (Or.inr (Or.inr (Or.inl ⟨rfl, by decide⟩)))).trans hO.2.2.2.1, (h 8 0 5 (Or.inr (Or.inr (Or.inl ⟨rfl, by decide⟩)))).trans hO.2.2.2.2⟩
theorem okS_up3 (hn : p 10 ≤ 7) (hs : OkSt p s) : OkSt p (upS s 26 3) := by
  refine okS_of hn hs (fun k hk => upS_n (by omega)) ?_ ?_ ?_ ?_
  · rw [upS_n (by decide)]; exact hs.2.1
  · rw [upS_n (by decide)]; exact hs.2.2.1
  · rw [upS_n (by decide)]; exact hs.2.2.2.1
  · rw [upS_n (by decide)]; exact hs.2.2.2.2
theorem okS_cb (hp : OkPa p) (hs : OkSt p s) (h22 : 0 ≤ s 22 ∧ s 22 ≤ 100) : OkSt p (cbS p L s) := by
  unfold cbS
  split
  · split
    · exact okS_up3 hp.1.2 hs
    · split
      · exact (runF_ok hp 8 s hs h22.1 (by omega)).1
      · exact okS_up3 hp.1.2 hs
  · exact hs
set_option maxHeartbeats 2000000 in
theorem cc_explore {n : Nat} {who : Int} (hp : OkPa p) (hi : OkIn p) (hn : n ≤ 5) (hw : who = -1 ∨ (0 ≤ who ∧ who < 7)) : ∀ (r l P : Nat) {d : Nat} {m : AMem} {b : BsT} {Q : Option AV → AMem → Prop}, l + r = n → 0 < r → seO m p L who n → (∀ j : Int, 0 ≤ j → j < l → m 901 0 j = dg l P j) → RepC m (l + 1) p (pfS p L l P) → pfS p L l P 26 = 0 → (l : Int) < p 14 → bsC m b → (who ≠ -1 → 0 ≤ b.1) → (∀ m2, FrX l m m2 → bsC m2 (fdS (wW who p L n) (dD n) (5 ^ r) (P * 5 ^ r) b) → Q none m2) → MtX yX8_explore cX8_explore 4 none (d + 2 * r + 6) [vr 8 0, vr 2 0, vi l] m Q := by
  intro r
  induction r with
  | zero => intro l P d m b Q _ h; exact absurd h (by decide)
  | succ r ih =>
    intro l P d m b Q hl _ hO h901 hR h26 hl14 hB hb h
    have h14 := hi.2.2.1
    have okl := pfS_ok (L := L) (P := P) (l := l) hp hi (by omega)
    have ed : d + 2 * (r + 1) + 6 = (d + 2 * r + 7) + 1 := by omega
    rw [ed]
    generalize hZ0 : fdS (wW who p L n) (dD n) (5 ^ (r + 1)) (P * 5 ^ (r + 1)) b = Z at h
    have loop : ∀ (c v : Nat) (mm : AMem) (b1 : BsT), v + c = 5 → FrX l m mm → bsC mm b1 → (who ≠ -1 → 0 ≤ b1.1) → fdS (wW who p L n) (dD n) (c * 5 ^ r) ((5 * P + v) * 5 ^ r) b1 = Z → Y cX8_explore 4 RX8 (d + 2 * r + 7 + 1) none 16 [some (vr 8 0), some (vr 2 0), some (vi l), some (vi v)] [] mm (fun r0 mem2 => rk none r0 ∧ Q r0 mem2) := by
      intro c
      induction c with
      | zero =>
        intro v mm b1 hv hF hB1 hb1 hZ
        rw [Nat.zero_mul] at hZ
        have hZ : b1 = Z := hZ
        subst hZ
        exact sg_X8_explore_16 _ _ _ _ ⟨fun _ => ⟨trivial, h mm hF hB1⟩, fun q => by omega⟩
      | succ c ihc =>
        intro v mm b1 hv hF hB1 hb1 hZ
        have hO1 := seO_f hF hO
        refine sg_X8_explore_16 _ _ _ _ ⟨fun q => by omega, fun _ => ?_⟩
        rw [hO1.2.2.2.1, hB1.1]
        refine ⟨fun q => ⟨trivial, h mm hF ?_⟩, fun _ => ⟨⟨by omega, by omega⟩, ?_⟩⟩
        · rw [fd_top (W := wW who p L n) (D := dD n) _ fun j _ _ => Int.le_trans (gm_top hp hi) q] at hZ
          subst hZ
          exact hB1
        · refine Y_met rfl 2 rfl (sg_X8_goOn_0 _ _ _ ?_)
          rw [w32n (n := l) (by omega), show Int.toNat (((l + 1 : Nat) : Int) + 1) = l + 2 by omega, show Int.toNat ((l : Int) + 1) = l + 1 by omega]
          refine ⟨⟨by omega, by omega⟩, ⟨by omega, by omega⟩, ?_⟩
          have hF1 : FrX l m (upM mm 901 0 l v) := FrX_u hF (Or.inl ⟨rfl, Int.le_refl _⟩)
          have hR1 : RepC (upM mm 901 0 l v) (l + 1) p (pfS p L l P) := RepC_fr (fun k i hk => hF1 k (l + 1) i (Or.inr (Or.inl ⟨by rcases hk with rfl | rfl | rfl <;> rfl, by omega⟩))) hR
          refine cc_goOn (by omega) hp hR1 fun m3 hF3 hR3 => ⟨rfl, ⟨by omega, by omega⟩, ?_⟩
          have e901 : m3 901 0 l = v := by rw [FrS_n hF3 (by decide) (by decide), up_s]
          rw [e901]
          have hF3' := FrX_trans hF1 (FrX_S hF3)
          refine cc_second (s := pfS p L l P) hp okl.1 (by omega) (seO_f hF3' hO).1 hR3 fun m5 hF5 hR5 => ⟨rfl, ?_⟩
          have hF5' := FrX_trans hF3' (FrX_S hF5)
          have hO5 := seO_f hF5' hO
          rw [← pfS_s hp (by omega) h26] at hR5
          have okT := pfS_ok (L := L) (P := 5 * P + v) (l := l + 1) hp hi (by omega)
          have t22 : pfS p L (l + 1) (5 * P + v) 26 = 0 → pfS p L (l + 1) (5 * P + v) 22 = l + 1 := fun q => by
            have := runF_22 hp (l + 1) q
            rw [ini_22] at this
            unfold pfS
            omega
          have h9 : ∀ j : Int, 0 ≤ j → j < ((l + 1 : Nat) : Int) → m5 901 0 j = dg (l + 1) (5 * P + v) j := by
            intro j j0 j1
            rw [FrS_n hF5 (by decide) (by decide), FrS_n hF3 (by decide) (by decide), up_eq]
            by_cases q : j = l
            · rw [if_pos q, q, dg_last (by omega)]
            · rw [if_neg q, hF 901 0 j (Or.inr (Or.inr (Or.inr ⟨rfl, by omega⟩))), h901 j j0 (by omega)]
              exact (dg_pre (r := 1) rfl (by omega) j0 (by omega)).symm
          have hB5 : bsC m5 b1 := by
            have e8 : m5 8 0 3 = mm 8 0 3 := by rw [FrS_n hF5 (by decide) (by decide), FrS_n hF3 (by decide) (by decide), up_k (by decide)]
            refine ⟨e8.trans hB1.1, fun i i0 i1 => ?_⟩
            rw [FrS_n hF5 (by decide) (by decide), FrS_n hF3 (by decide) (by decide), up_k (by decide)]
            exact hB1.2 i i0 i1
          have hpos : 0 < 5 ^ r := Nat.pow_pos (by decide)
          have hZ2 : fdS (wW who p L n) (dD n) (c * 5 ^ r) ((5 * P + (v + 1)) * 5 ^ r) (fdS (wW who p L n) (dD n) (5 ^ r) ((5 * P + v) * 5 ^ r) b1) = Z := by
            rw [show (c + 1) * 5 ^ r = 5 ^ r + c * 5 ^ r by rw [Nat.succ_mul, Nat.add_comm], fd_add] at hZ
            rw [show (5 * P + (v + 1)) * 5 ^ r = (5 * P + v) * 5 ^ r + 5 ^ r by rw [← Nat.add_assoc, Nat.succ_mul]]
            exact hZ
          have e13 : m5 7 (l + 2) 13 = pfS p L (l + 1) (5 * P + v) 26 := hR5.2.2.2.2.2.2.2.2.2
          have e6 : m5 7 (l + 2) 6 = p 14 := hR5.2.1.2.1
          have e8 : m5 7 (l + 2) 8 = pfS p L (l + 1) (5 * P + v) 22 := hR5.2.2.2.2.1
          have leaf : (¬ pfS p L (l + 1) (5 * P + v) 26 = 0 ∨ ((l + 1 : Nat) : Int) = p 14 ∨ l + 1 = n) → MtX yX7_giveUpIfTooLate cX7_giveUpIfTooLate 1 none (d + 2 * r + 6) [vr 7 (l + 2)] m5 (fun r1 m8 => r1 = none ∧ Y cX8_goOn 5 RX8 (d + 2 * r + 6 + 1) none 74 [some (vr 8 0), some (vr 2 0), some (vi l), some (vr 7 (l + 2)), some (vi 0)] [] m8 (fun r2 mem2 => rk none r2 ∧ r2 = none ∧ Y cX8_explore 4 RX8 (d + 2 * r + 7 + 1) none 16 [some (vr 8 0), some (vr 2 0), some (vi l), some (vi (w32 ((v : Int) + 1)))] [] mem2 (fun r0 mem2 => rk none r0 ∧ Q r0 mem2))) := by
            intro hc
            refine cc_giveUp hp (by omega) (by omega) hR5 fun m7 hF7 hR7 => ⟨rfl, ?_⟩
            refine cc_home (d := d + 2 * r + 1) hp (guS_ok hp.1.2 okT.1) (by rw [guS_22]; omega) (seO_f (FrX_trans hF5' (FrX_S hF7)) hO).1 hR7 fun m8 hF87 hR8 => ?_
            rw [guS_run] at hR8
            have hF8 := FrS_trans hF7 hF87
            have hF8' := FrX_trans hF5' (FrX_S hF8)
            have hO8 := seO_f hF8' hO
            have hB8 : bsC m8 b1 := by
              have e8 : m8 8 0 3 = m5 8 0 3 := FrS_n hF8 (by decide) (by decide)
              refine ⟨e8.trans hB5.1, fun i i0 i1 => ?_⟩
              rw [FrS_n hF8 (by decide) (by decide)]
              exact hB5.2 i i0 i1
            refine cc_compare hp (okS_cb hp okT.1 (by omega)) hO8.1 hO8.2.1 hR8 hO8.2.2.1 hB8 hb1 (by omega) hw fun m10 hF10 hB10 => ⟨rfl, trivial, rfl, ?_⟩
            rw [w32n (n := v) (by omega)]
            have hI : ∀ i, (5 * P + v) * 5 ^ r ≤ i → i < (5 * P + v) * 5 ^ r + 5 ^ r → i / 5 ^ r = 5 * P + v := fun i i0 i1 => dv_iv hpos i0 i1
            have eW1 : ∀ i, (5 * P + v) * 5 ^ r ≤ i → i < (5 * P + v) * 5 ^ r + 5 ^ r → wW who p L n i = wV who p (cbS p L (pfS p L (l + 1) (5 * P + v))) := fun i i0 i1 => leaf_W hp hi (l := l + 1) (r := r) (by omega) (by omega) (by omega) (hI i i0 i1)
            have e0 := eW1 ((5 * P + v) * 5 ^ r) (Nat.le_refl _) (by omega)
            have e1 : fdS (wW who p L n) (dD n) (5 ^ r) ((5 * P + v) * 5 ^ r) b1 = if b1.1 < wW who p L n ((5 * P + v) * 5 ^ r) then (wW who p L n ((5 * P + v) * 5 ^ r), dD n ((5 * P + v) * 5 ^ r)) else b1 := by
              have := fd_one (W := wW who p L n) (D := dD n) (c := 5 ^ r - 1) (i := (5 * P + v) * 5 ^ r) (b := b1) fun j j0 j1 => by rw [eW1 j j0 (by omega), e0]
              rwa [show 5 ^ r - 1 + 1 = 5 ^ r by omega] at this
            rw [e1] at hZ2
            refine ihc (v + 1) m10 _ (by omega) (FrX_trans hF8' hF10) ?_ ?_ hZ2
            · rw [e0]
              by_cases q : b1.1 < wV who p (cbS p L (pfS p L (l + 1) (5 * P + v)))
              · rw [if_pos q] at hB10 ⊢
                refine bsC_c hB10 rfl fun i i0 i1 => ?_
                show (if i ≤ l then m8 901 0 i else 0) = dD n ((5 * P + v) * 5 ^ r) i
                unfold dD
                by_cases g : i ≤ l
                · rw [if_pos g, if_pos (by omega), FrS_n hF8 (by decide) (by decide), h9 i i0 (by omega)]
                  exact (dg_pre (r := r) (by omega) (hI _ (Nat.le_refl _) (by omega)) i0 (by omega)).symm
                · rw [if_neg g]
                  by_cases g2 : i < n
                  · rw [if_pos g2, dg_zero (l := l + 1) (by omega) (by omega) g2]
                  · rw [if_neg g2]
              · rw [if_neg q] at hB10 ⊢
                exact hB10
            · intro q
              have := hb1 q
              split
              · rename_i g
                show 0 ≤ wW who p L n ((5 * P + v) * 5 ^ r)
                omega
              · exact this
          rw [e13, e6, e8, hO5.2.2.2.2]
          refine ⟨fun q => leaf (Or.inl q), fun q => ⟨fun q2 => leaf (Or.inr (Or.inl ?_)), fun q2 => ⟨fun q3 => leaf (Or.inr (Or.inr ?_)), fun q3 => ?_⟩⟩⟩
          · have := t22 q
            omega
          · omega
          · have t := t22 q
            refine ih (l + 1) (5 * P + v) (by omega) (by omega) hO5 h9 hR5 q (by omega) hB5 hb1 fun m6 hF6 hB6 => ⟨rfl, trivial, rfl, ?_⟩
            rw [w32n (n := v) (by omega)]
            refine ihc (v + 1) m6 _ (by omega) (FrX_trans hF5' (FrX_mono hF6 (by omega))) hB6 ?_ hZ2
            intro q4
            exact Int.le_trans (hb1 q4) (fd_mono _)
    refine Y_met rfl 1 rfl (sg_X8_explore_0 _ _ _ ?_)
    rw [hO.2.2.2.2]
    refine ⟨fun q => by omega, fun _ => ⟨fun _ => loop 5 0 m b (by decide) (FrX_refl _ _) hB hb ?_, fun q => by omega⟩⟩
    rw [← hZ0, show 5 * 5 ^ r = 5 ^ (r + 1) by rw [Nat.pow_succ, Nat.mul_comm], show (5 * P + 0) * 5 ^ r = P * 5 ^ (r + 1) by rw [Nat.add_zero, Nat.pow_succ, Nat.mul_comm 5 P, Nat.mul_assoc, Nat.mul_comm 5]]
end
