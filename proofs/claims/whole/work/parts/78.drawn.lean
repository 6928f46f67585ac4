/-! drawn -/
def zNx (z : Int) : Int := w32 (w32 (z * 1103515245) + 12345)
def mvD (p s : StR) (z : Int) : Int := if s 23 < p 15 ∨ an32 (ushr32 z 16) 1 = 0 then Int.tmod (ushr32 z 8) 5 else 2
def rdF (p : StR) (L : Option LnL) : Nat → StR → Int → StR × Int
  | 0, s, z => (s, z)
  | k + 1, s, z => if s 26 = 0 then rdF p L k (secS p L s (mvD p s (zNx z))) (zNx z) else (s, z)
def rdM (p : StR) (L : Option LnL) : Nat → StR → Int → StR × Int
  | 0, s, z => (s, z)
  | k + 1, s, z => if s 26 = 0 then rdM p L k (secM p L s (mvD p s (zNx z))) (zNx z) else (s, z)
theorem rdF_s {p s : StR} {L : Option LnL} {z : Int} {k : Nat} : rdF p L (k + 1) s z = if s 26 = 0 then rdF p L k (secS p L s (mvD p s (zNx z))) (zNx z) else (s, z) := rfl
theorem rdM_s {p s : StR} {L : Option LnL} {z : Int} {k : Nat} : rdM p L (k + 1) s z = if s 26 = 0 then rdM p L k (secM p L s (mvD p s (zNx z))) (zNx z) else (s, z) := rfl
theorem rdF_e {p s : StR} {L : Option LnL} {z : Int} {k : Nat} (h : ¬ s 26 = 0) : rdF p L k s z = (s, z) := by
  cases k with
  | zero => rfl
  | succ k => rw [rdF_s, if_neg h]
theorem rdM_e {p s : StR} {L : Option LnL} {z : Int} {k : Nat} (h : ¬ s 26 = 0) : rdM p L k s z = (s, z) := by
  cases k with
  | zero => rfl
  | succ k => rw [rdM_s, if_neg h]
theorem rd_all {p : StR} {L : Option LnL} (hp : OkPa p) : ∀ (b : Nat) (s : StR) (z : Int), s 22 + b = p 14 → (b = 0 → ¬ s 26 = 0) → rdM p L b s z = (losS (rdF p L b s z).1, (rdF p L b s z).2) := by
  intro b
  induction b with
  | zero =>
    intro s z h1 h2
    show (s, z) = (losS s, z)
    rw [losS_id (h2 rfl)]
  | succ b ih =>
    intro s z h1 h2
    by_cases c : s 26 = 0
    · rw [rdM_s, if_pos c, rdF_s, if_pos c]
      cases b with
      | zero =>
        rw [secM_l hp (by omega), rdM_e losS_e]
        rfl
      | succ b =>
        rw [secM_n hp (by omega)]
        exact ih _ _ (by rw [secS_22 hp]; omega) (fun q => by omega)
    · rw [rdM_e c, rdF_e c]
      show (s, z) = (losS s, z)
      rw [losS_id c]
theorem rdF_ok {p : StR} {L : Option LnL} (hp : OkPa p) : ∀ (k : Nat) (s : StR) (z : Int), OkSt p s → OkSt p (rdF p L k s z).1 := by
  intro k
  induction k with
  | zero => intro s z hs; exact hs
  | succ k ih =>
    intro s z hs
    rw [rdF_s]
    split
    · exact ih _ _ (okS_sec hp hs)
    · exact hs
/-- one raid by draws, many -/
def dr1 (p : StR) (L : Option LnL) (z : Int) : StR × Int := (losS (rdF p L (p 14).toNat (iniS p) z).1, (rdF p L (p 14).toNat (iniS p) z).2)
def drN (p : StR) (L : Option LnL) (z0 : Int) : Nat → Int × Int × Int
  | 0 => (z0, 0, 0)
  | k + 1 => ((dr1 p L (drN p L z0 k).1).2, (drN p L z0 k).2.1 + ptS (dr1 p L (drN p L z0 k).1).1, (drN p L z0 k).2.2 + if (dr1 p L (drN p L z0 k).1).1 26 = 2 then 1 else 0)
theorem dr1_ok {p : StR} {L : Option LnL} {z : Int} (hp : OkPa p) (hi : OkIn p) : OkSt p (dr1 p L z).1 := okS_los hp.1.2 (rdF_ok hp _ _ _ (okS_ini hp hi))
theorem drN_rg {p : StR} {L : Option LnL} {z0 : Int} (hp : OkPa p) (hi : OkIn p) : ∀ k : Nat, (0 ≤ (drN p L z0 k).2.1 ∧ (drN p L z0 k).2.1 ≤ 7 * k) ∧ (0 ≤ (drN p L z0 k).2.2 ∧ (drN p L z0 k).2.2 ≤ k) := by
  intro k
  induction k with
  | zero => exact ⟨⟨Int.le_refl 0, Int.le_refl 0⟩, Int.le_refl 0, Int.le_refl 0⟩
  | succ k ih =>
    have h1 := ptS_rg (dr1_ok (L := L) (z := (drN p L z0 k).1) hp hi)
    have e1 : (drN p L z0 (k + 1)).2.1 = (drN p L z0 k).2.1 + ptS (dr1 p L (drN p L z0 k).1).1 := rfl
    have e2 : (drN p L z0 (k + 1)).2.2 = (drN p L z0 k).2.2 + if (dr1 p L (drN p L z0 k).1).1 26 = 2 then 1 else 0 := rfl
    rw [e1, e2]
    refine ⟨by omega, ?_⟩
    split <;> omega
section
variable {d : Nat} {p : StR} {L : Option LnL} {Q : Option AV → AMem → Prop}
theorem cc_drawn1 {s0 : StR} {z0 : Int} {m0 : AMem} (hp : OkPa p) (hbr : 0 ≤ p 14 ∧ p 14 ≤ 60) (hs0 : OkSt p s0) (h0 : s0 22 = 0) (hH : HalfC m0 p L) (hR : RepC m0 0 p s0)
    (h : ∀ m2, FrS wSc 0 m0 m2 → RepC m2 0 p (losS (rdF p L (p 14).toNat s0 z0).1) → Q (some (vi (rdF p L (p 14).toNat s0 z0).2)) m2) : MtX yX7_playDrawn cX7_playDrawn 6 (some .int) (d + 6) [vr 7 0, vr 2 0, vi z0] m0 Q := by
  have hn := hp.1
  have key : ∀ (r : Nat) (s : StR) (z : Int) (m : AMem), s 22 + r = p 14 → 0 ≤ s 22 → OkSt p s → FrS wSc 0 m0 m → RepC m 0 p s → rdF p L r s z = rdF p L (p 14).toNat s0 z0 → Y cX7_playDrawn 6 RX7 (d + 6) none 5 [some (vr 7 0), some (vr 2 0), some (vi z0), some (vi z), some (vi (s 22)), none] [] m (fun r mem2 => rk (some .int) r ∧ Q r mem2) := by
    intro r
    induction r with
    | zero =>
      intro s z m hr h22 hs hF hR he
      have he : (s, z) = rdF p L (p 14).toNat s0 z0 := he
      refine sg_X7_playDrawn_5 _ _ _ _ _ _ ⟨fun _ => ?_, fun c => by rw [hR.2.1.2.1] at c; omega⟩
      refine cc_endB hn.2 hR fun m2 hF2 hR2 => ⟨rfl, trivial, ?_⟩
      have := h m2 (FrS_trans hF (FrS_mono hF2 (by decide))) (by rw [← he]; exact hR2)
      rw [← he] at this
      exact this
    | succ r ih =>
      intro s z m hr h22 hs hF hR he
      have hH2 := HalfC_S hF hH
      rw [rdF_s] at he
      refine sg_X7_playDrawn_5 _ _ _ _ _ _ ⟨fun c => by rw [hR.2.1.2.1] at c; omega, fun _ => ?_⟩
      rw [hR.2.2.2.2.2.2.2.2.2, hR.2.2.2.2.2.1, hH2.2.2.2.1]
      refine ⟨fun c2 => ?_, fun c2 => ⟨by decide, ?_⟩⟩
      · rw [if_neg c2] at he
        refine cc_endB hn.2 hR fun m2 hF2 hR2 => ⟨rfl, trivial, ?_⟩
        have := h m2 (FrS_trans hF (FrS_mono hF2 (by decide))) (by rw [← he]; exact hR2)
        rw [← he] at this
        exact this
      · rw [if_pos c2] at he
        have ez : w32 (w32 (z * 1103515245) + 12345) = zNx z := rfl
        rw [ez]
        have go : ∀ (v x : Int), v = mvD p s (zNx z) → MtX yX7_second cX7_second 6 none (d + 5) [vr 7 0, vr 2 0, vi v] m (fun r m10 => r = none ∧ (Y cX7_playDrawn 6 RX7 (d + 6) none 5 [some (vr 7 0), some (vr 2 0), some (vi z0), some (vi (zNx z)), some (vi (w32 (s 22 + 1))), some (vi x)] [] m10 (fun r mem2 => rk (some .int) r ∧ Q r mem2))) := by
          intro v x hv
          subst hv
          refine cc_second hp hs (by omega) hH2 hR fun m2 hF2 hR2 => ⟨rfl, ?_⟩
          have e := secS_22 (s := s) (L := L) (v := mvD p s (zNx z)) hp
          have := ih (secS p L s (mvD p s (zNx z))) (zNx z) m2 (by omega) (by omega) (okS_sec hp hs) (FrS_trans hF hF2) hR2 he
          rw [e] at this
          rw [w32i (by omega) (by omega)]
          exact Y_fg (by exact ⟨rfl, rfl, rfl, rfl, rfl, trivial⟩) this
        refine ⟨fun c3 => ?_, fun c3 => ⟨fun c4 => ⟨fun _ => go _ _ ?_, fun c5 => absurd rfl c5⟩, fun c4 => ?_⟩⟩
        · refine sg_X7_playDrawn_53 _ _ _ _ _ _ ⟨fun c4 => absurd c4 (by decide), fun _ => go _ _ ?_⟩
          unfold mvD
          rw [if_pos (Or.inl c3)]
        · unfold mvD
          rw [if_neg (fun q => q.elim c3 c4)]
        · refine sg_X7_playDrawn_53 _ _ _ _ _ _ ⟨fun c5 => absurd c5 (by decide), fun _ => go _ _ ?_⟩
          unfold mvD
          rw [if_pos (Or.inr c4)]
  have := key (p 14).toNat s0 z0 m0 (by omega) (by omega) hs0 (FrS_refl _ _ _) hR rfl
  rw [h0] at this
  exact Y_met rfl 3 rfl (sg_X7_playDrawn_0 _ _ _ _ this)
end
section
variable {d : Nat} {L : Option LnL} {m : AMem} {Q : Option AV → AMem → Prop}
set_option maxHeartbeats 1000000 in
theorem pr_drawn {z0 n w : Int} (hH : InvH m) (hL : LawC m L) (hM : LawM m L)
    (hQ : ∀ x m1, MtX yX12_drawn cX12_drawn 8 (some .int) (d + 8) [vr 12 0, vi z0, vi n, vi w] m1 (fun r m2 => r = some (vi x) ∧ FrM wRd m m2) → Q (some (vi x)) m1) : MtX yX11_drawn cX11_drawn 8 (some .int) (d + 8) [vr 11 0, vi z0, vi n, vi w] m Q := by
  have hp := pOf_ok hH
  have hi := pOf_in hH
  have hn := hp.1
  have h14 := hi.2.2.1
  have hHC := pOf_hc hH hL
  have bad : ¬ ((1 ≤ n ∧ n ≤ 50) ∧ 0 ≤ w ∧ w ≤ 1) → Q (some (vi (-1))) m := fun hb => hQ _ _ (Y_met rfl 4 rfl (sg_X12_drawn_0 _ _ _ _ _ (cm_in fun x hx => ⟨x, rfl, fun c => ⟨trivial, rfl, FrM_refl _ _⟩, fun c => cm_in fun y hy => ⟨y, rfl, fun c2 => by omega, fun c2 => ⟨trivial, rfl, FrM_refl _ _⟩⟩⟩)))
  refine Y_met rfl 4 rfl (sg_X11_drawn_0 _ _ _ _ _ ⟨fun c => ⟨trivial, bad (by omega)⟩, fun c => ⟨fun c2 => ⟨trivial, bad (by omega)⟩, fun c2 => ⟨fun c3 => ⟨trivial, bad (by omega)⟩, fun c3 => ⟨fun c4 => ?_, fun c4 => ⟨trivial, bad (by omega)⟩⟩⟩⟩⟩)
  generalize hpd : pOf m = p at *
  have hrg := drN_rg (L := L) (z0 := z0) hp hi
  -- the reference
  have ref : ∀ (m2 : AMem) (x : Int), FrS wSc 0 m m2 → (x = if w = 0 then (drN p L z0 n.toNat).2.1 else (drN p L z0 n.toNat).2.2) → Q (some (vi x)) m2 := by
    intro m2 x hF2 hx
    have hF2m := FrS_M hF2
    have hHM2 : HalfM m2 p L := HalfM_fr hF2m (by decide) (by rw [← hpd]; exact pOf_hm hH hM)
    have hBM2 : BasM m2 p := BasM_fr hF2m (by decide) (by rw [← hpd]; exact pOf_bm hH)
    refine hQ _ _ (Y_met rfl 4 rfl (sg_X12_drawn_0 _ _ _ _ _ (cm_in fun y hy => ⟨y, rfl, fun c => by omega, fun c => cm_in fun z hz => ⟨z, rfl, fun c2 => ?_, fun c2 => by omega⟩⟩)))
    have outer : ∀ (r k : Nat) (mm : AMem), ((k + r : Nat) : Int) = n → FrM (5036 :: wMo) m2 mm → Y cX12_drawn 8 RX12 (d + 8) none 33 [some (vr 12 0), some (vi z0), some (vi n), some (vi w), some (vi (drN p L z0 k).1), some (vi (drN p L z0 k).2.1), some (vi (drN p L z0 k).2.2), some (vi k)] [] mm (fun r mem2 => rk (some .int) r ∧ r = some (vi x) ∧ FrM wRd m mem2) := by
      intro r
      induction r with
      | zero =>
        intro k mm hk hF
        have e : k = n.toNat := by omega
        have hFF : FrM wRd m mm := FrM_trans (FrM_mono hF2m (by decide)) (FrM_mono hF (by decide))
        exact sg_X12_drawn_33 _ _ _ _ _ _ _ _ _ ⟨fun _ => ⟨fun c => ⟨trivial, by rw [hx, if_neg c, e], hFF⟩, fun c => ⟨trivial, by rw [hx, if_pos c, e], hFF⟩⟩, fun c => by omega⟩
      | succ r ih =>
        intro k mm hk hF
        have hk1 := hrg k
        have hk2 := ptS_rg (dr1_ok (L := L) (z := (drN p L z0 k).1) hp hi)
        refine sg_X12_drawn_33 _ _ _ _ _ _ _ _ _ ⟨fun c => by omega, fun _ => ?_⟩
        refine cm_begin hp hi (by rw [hF 12 0 1 (by decide)]; exact hHM2.1) (BasM_fr hF (by decide) hBM2) fun m3 hF3 hR3 h31 => ⟨rfl, ?_⟩
        have hF3' := FrM_trans hF hF3
        have last : ∀ (s : StR) (z : Int) (m4 : AMem), FrM (5036 :: wMo) m2 m4 → RepM m4 p s → OkSt p s → (s, z) = dr1 p L (drN p L z0 k).1 → ¬ s 26 = 0 → Y cX12_drawn 8 RX12 (d + 8) none 43 [some (vr 12 0), some (vi z0), some (vi n), some (vi w), some (vi z), some (vi (drN p L z0 k).2.1), some (vi (drN p L z0 k).2.2), some (vi k)] [] m4 (fun r mem2 => rk (some .int) r ∧ r = some (vi x) ∧ FrM wRd m mem2) := by
          intro s z m4 hF4 hR4 hs he hend
          have nx := ih (k + 1) m4 (by omega) hF4
          have e1 : (drN p L z0 (k + 1)).1 = z := by show (dr1 p L (drN p L z0 k).1).2 = z; rw [← he]
          have e2 : (drN p L z0 (k + 1)).2.1 = (drN p L z0 k).2.1 + ptS s := by show _ + ptS (dr1 p L (drN p L z0 k).1).1 = _; rw [← he]
          have e3 : (drN p L z0 (k + 1)).2.2 = (drN p L z0 k).2.2 + if s 26 = 2 then 1 else 0 := by show (drN p L z0 k).2.2 + (if (dr1 p L (drN p L z0 k).1).1 26 = 2 then 1 else 0) = _; rw [← he]
          rw [e1, e2, e3] at nx
          rw [← he] at hk2
          have hk2 : 0 ≤ ptS s ∧ ptS s ≤ 7 := hk2
          refine sg_X12_drawn_43 _ _ _ _ _ _ _ _ _ ?_
          rw [hR4.2.2.2.2.1]
          refine ⟨fun _ => cm_pts hR4 hs ⟨_, rfl, ?_⟩, fun c => absurd c hend⟩
          rw [hR4.2.2.2.2.1, w32i (z := (drN p L z0 k).2.1 + ptS s) (by omega) (by omega), w32i (z := (drN p L z0 k).2.2 + 1) (by omega) (by omega), w32n (n := k) (by omega)]
          refine ⟨fun c => ?_, fun c => ?_⟩
          · rw [if_neg c, Int.add_zero] at nx; exact nx
          · rw [if_pos c] at nx; exact nx
        have inner : ∀ (q : Nat) (s : StR) (z : Int) (m4 : AMem), s 22 + q = p 14 → 0 ≤ s 22 → OkSt p s → FrM (5036 :: wMo) m2 m4 → RepM m4 p s → m4 12 0 31 = s 22 → (q = 0 → ¬ s 26 = 0) → rdM p L q s z = dr1 p L (drN p L z0 k).1 → Y cX12_drawn 8 RX12 (d + 8) none 43 [some (vr 12 0), some (vi z0), some (vi n), some (vi w), some (vi z), some (vi (drN p L z0 k).2.1), some (vi (drN p L z0 k).2.2), some (vi k)] [] m4 (fun r mem2 => rk (some .int) r ∧ r = some (vi x) ∧ FrM wRd m mem2) := by
          intro q
          induction q with
          | zero => intro s z m4 hq h22 hs hF4 hR4 h31 hz he; exact last s z m4 hF4 hR4 hs he (hz rfl)
          | succ q ihq =>
            intro s z m4 hq h22 hs hF4 hR4 h31 hz he
            rw [rdM_s] at he
            by_cases hend : s 26 = 0
            · rw [if_pos hend] at he
              have hHM4 := HalfM_fr hF4 (by decide) hHM2
              have ez : w32 (w32 (z * 1103515245) + 12345) = zNx z := rfl
              have go : ∀ v : Int, v = mvD p s (zNx z) → MtX yX12_goSecond cX12_goSecond 4 none (d + 7) [vr 12 0, vi v] m4 (fun r m7 => r = none ∧ (Y cX12_drawn 8 RX12 (d + 8) none 43 [some (vr 12 0), some (vi z0), some (vi n), some (vi w), some (vi (zNx z)), some (vi (drN p L z0 k).2.1), some (vi (drN p L z0 k).2.2), some (vi k)] [] m7 (fun r mem2 => rk (some .int) r ∧ r = some (vi x) ∧ FrM wRd m mem2))) := by
                intro v hv
                subst hv
                refine cm_second hp hs (by omega) hend hHM4 hR4 h31 fun m5 hF5 hR5 h315 => ⟨rfl, ?_⟩
                have e22 : secM p L s (mvD p s (zNx z)) 22 = s 22 + 1 := by rw [secM_k (by decide), secS_22 hp]
                have hok5 : OkSt p (secM p L s (mvD p s (zNx z))) := by
                  have h := okS_sec (L := L) (v := mvD p s (zNx z)) hp hs
                  refine okS_of hn.2 h (fun k hk => secM_k (by omega)) ?_ ?_ ?_ ?_
                  · rw [secM_k (by decide)]; exact h.2.1
                  · rw [secM_k (by decide)]; exact h.2.2.1
                  · rw [secM_k (by decide)]; exact h.2.2.2.1
                  · rw [secM_k (by decide)]; exact h.2.2.2.2
                refine ihq (secM p L s (mvD p s (zNx z))) (zNx z) m5 (by omega) (by omega) hok5 (FrM_trans hF4 (FrM_mono hF5 (by decide))) hR5 h315 (fun hq0 => ?_) he
                rw [secM_l hp (by omega)]
                exact losS_e
              refine sg_X12_drawn_43 _ _ _ _ _ _ _ _ _ ?_
              rw [hR4.2.2.2.2.1, hR4.2.2.2.2.2.2.1, hHM4.2.2.1.2.2.2, ez]
              refine ⟨fun c => absurd hend c, fun _ => ⟨by decide, fun c3 => go _ ?_, fun c3 => ⟨fun c4 => go _ ?_, fun c4 => go _ ?_⟩⟩⟩
              · unfold mvD; rw [if_pos (Or.inl c3)]
              · unfold mvD; rw [if_neg (fun q => q.elim c3 c4)]
              · unfold mvD; rw [if_pos (Or.inr c4)]
            · rw [if_neg hend] at he
              exact last s z m4 hF4 hR4 hs he hend
        refine inner (p 14).toNat (iniS p) (drN p L z0 k).1 m3 (by rw [ini_o (by decide)]; omega) (by rw [ini_o (by decide)]; decide) (okS_ini hp hi) hF3' hR3 (by rw [h31, ini_o (by decide)]) (fun q => by omega) ?_
        exact rd_all hp (p 14).toNat (iniS p) _ (by rw [ini_o (by decide)]; omega) (fun q => by omega)
    have := outer n.toNat 0 m2 (by omega) (FrM_refl _ _)
    exact this
  -- the class
  have key : ∀ (r k : Nat) (mm : AMem), ((k + r : Nat) : Int) = n → FrS wSc 0 m mm → Y cX11_drawn 8 RX11 (d + 8) none 34 [some (vr 11 0), some (vi z0), some (vi n), some (vi w), some (vi (drN p L z0 k).1), some (vi (drN p L z0 k).2.1), some (vi (drN p L z0 k).2.2), some (vi k)] [] mm (fun r mem2 => rk (some .int) r ∧ Q r mem2) := by
    intro r
    induction r with
    | zero =>
      intro k mm hk hF
      have e : k = n.toNat := by omega
      exact sg_X11_drawn_34 _ _ _ _ _ _ _ _ _ ⟨fun _ => ⟨fun c => ⟨trivial, ref mm _ hF (by rw [if_neg c, e])⟩, fun c => ⟨trivial, ref mm _ hF (by rw [if_pos c, e])⟩⟩, fun c => by omega⟩
    | succ r ih =>
      intro k mm hk hF
      have hk1 := hrg k
      have hok := dr1_ok (L := L) (z := (drN p L z0 k).1) hp hi
      have hk2 := ptS_rg hok
      refine sg_X11_drawn_34 _ _ _ _ _ _ _ _ _ ⟨fun c => by omega, fun _ => ?_⟩
      refine cc_begin (p := p) hp (BasC_S hF (by rw [← hpd]; exact pOf_bc hH)) fun m2 hF2 hR2 => ⟨rfl, ?_⟩
      have hF2' : FrS wSc 0 m m2 := FrS_trans hF (FrS_mono hF2 (by decide))
      refine cc_drawn1 (L := L) hp (by omega) (okS_ini hp hi) (ini_o (by decide)) (HalfC_S hF2' hHC) hR2 fun m3 hF3 hR3 => ⟨_, rfl, ?_⟩
      have hR3 : RepC m3 0 p (dr1 p L (drN p L z0 k).1).1 := hR3
      refine cc_pts hR3 hok ⟨_, rfl, ?_⟩
      have hF4 := FrS_trans hF2' hF3
      rw [hR3.2.2.2.2.2.2.2.2.2, w32i (z := (drN p L z0 k).2.1 + ptS (dr1 p L (drN p L z0 k).1).1) (by omega) (by omega), w32i (z := (drN p L z0 k).2.2 + 1) (by omega) (by omega), w32i (z := (drN p L z0 k).2.2 + 0) (by omega) (by omega), w32n (n := k) (by omega)]
      have nx := ih (k + 1) m3 (by omega) hF4
      have e3 : (drN p L z0 (k + 1)).2.2 = (drN p L z0 k).2.2 + if (dr1 p L (drN p L z0 k).1).1 26 = 2 then 1 else 0 := rfl
      rw [e3] at nx
      refine ⟨fun c => ?_, fun c => ?_⟩
      · rw [if_neg c] at nx; exact nx
      · rw [if_pos c] at nx; exact nx
  have := key n.toNat 0 m (by omega) (FrS_refl _ _ _)
  exact this
end
