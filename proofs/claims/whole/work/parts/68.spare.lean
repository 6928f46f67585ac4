/-! spared, stand -/
def spB (p : StR) (L : Option LnL) (mv : Int → Int) : Nat → Int
  | 0 => 0
  | k + 1 => if tbt (p 11) k = 1 ∧ ¬ finS (upS p 11 (clb (p 11) k)) L mv 26 = 2 then or_32 (spB p L mv k) (shl32 1 k) else spB p L mv k
theorem spB_s {p : StR} {L : Option LnL} {mv : Int → Int} {k : Nat} : spB p L mv (k + 1) = if tbt (p 11) k = 1 ∧ ¬ finS (upS p 11 (clb (p 11) k)) L mv 26 = 2 then or_32 (spB p L mv k) (shl32 1 k) else spB p L mv k := rfl
theorem spB_rg {p : StR} {L : Option LnL} {mv : Int → Int} : ∀ {k : Nat}, k ≤ 7 → 0 ≤ spB p L mv k ∧ spB p L mv k < 128 := by
  intro k
  induction k with
  | zero => intro _; exact ⟨Int.le_refl 0, by show (0 : Int) < 128; decide⟩
  | succ k ih =>
    intro hk
    have := ih (by omega)
    rw [spB_s]
    split
    · exact or_rg this.1 this.2 (by omega) (by omega)
    · exact this
theorem or_0 {s : Int} (h1 : 0 ≤ s) (h2 : s < 128) : or_32 s 0 = s := b_al1 (P := fun s => or_32 s 0 = s) (by decide +kernel) h1 h2
theorem OkPa_11 {p : StR} {v : Int} (hp : OkPa p) (hv : 0 ≤ v ∧ v < 128) : OkPa (upS p 11 v) := by
  have hn := hp.1
  unfold OkPa
  rw [upS_n (i := 11) (k := 10) (by decide), upS_s]
  refine ⟨hn, fun i g0 g1 => ?_, hv⟩
  rw [upS_n (by omega)]
  exact hp.2.1 i g0 g1
theorem OkIn_11 {p : StR} {k : Int} (hp : OkPa p) (hi : OkIn p) (h0 : 0 ≤ k) (h1 : k < 7) : OkIn (upS p 11 (clb (p 11) k)) := by
  have hn := hp.1
  obtain ⟨a1, a2, a3, a4⟩ := hi
  refine ⟨fun i g0 g1 => ?_, ?_, ?_, fun i g0 g1 => ?_⟩
  · rw [upS_n (by omega)] at g1
    rw [upS_n (by omega), upS_n (by omega)]
    exact a1 i g0 g1
  · rw [upS_n (by omega)]; exact a2
  · rw [upS_n (by omega)]; exact a3
  · rw [upS_n (by omega)] at g0
    rw [upS_s, tb_cl hp.2.2.1 hp.2.2.2 h0 h1 (by omega) g1]
    split
    · rfl
    · exact a4 i g0 g1
theorem HalfM_11 {m : AMem} {p : StR} {L : Option LnL} {v : Int} (hn : p 10 ≤ 7) (h : HalfM m p L) : HalfM m (upS p 11 v) L := by
  obtain ⟨a1, a2, a3, a4⟩ := h
  refine ⟨a1, fun i g0 g1 => ?_, a3, a4⟩
  rw [upS_n (by decide)] at g1
  rw [upS_n (by omega)]
  exact a2 i g0 g1
section
variable {d : Nat} {L : Option LnL} {m : AMem} {Q : Option AV → AMem → Prop}
theorem cc_isIn2 {i : Int} (h : ∀ x : Int, (x = 1 ∧ (0 ≤ i ∧ i < m 2 0 5) ∧ tbt (m 2 0 4) i = 1 ∨ x = 0 ∧ ¬ ((0 ≤ i ∧ i < m 2 0 5) ∧ tbt (m 2 0 4) i = 1)) → Q (some (vi x)) m) : MtX yX2_isInside cX2_isInside 2 (some .boolean) (d + 2) [vr 2 0, vi i] m Q := by
  refine Y_met rfl 0 rfl (sg_X2_isInside_0 _ _ _ ?_)
  have big : ∀ x : Int, (x = 1 ∧ (0 ≤ i ∧ i < m 2 0 5) ∨ x = 0 ∧ ¬ (0 ≤ i ∧ i < m 2 0 5)) → ((x = 0 ∨ x = 1) ∧ ∃ x3 : Int, some (vi x) = some (vi x3) ∧ ((x3 = 0 → rk (some .boolean) (some (vi 0)) ∧ Q (some (vi 0)) m) ∧ (¬ x3 = 0 → (an32 (shr32 (m 2 0 4) i) 1 ≠ 1 → rk (some .boolean) (some (vi 0)) ∧ Q (some (vi 0)) m) ∧ (an32 (shr32 (m 2 0 4) i) 1 = 1 → rk (some .boolean) (some (vi 1)) ∧ Q (some (vi 1)) m)))) := by
    intro x hx
    refine ⟨by omega, x, rfl, fun c => ⟨Or.inl rfl, h 0 (Or.inr ⟨rfl, fun z => by omega⟩)⟩, fun c => ⟨fun c2 => ⟨Or.inl rfl, h 0 (Or.inr ⟨rfl, fun z => c2 z.2⟩)⟩, fun c2 => ⟨Or.inr rfl, h 1 (Or.inl ⟨rfl, by omega, c2⟩)⟩⟩⟩
  exact Y_met rfl 0 rfl (sg_X2_exists_0 _ _ _ ⟨fun c => big 0 (by omega), fun c => ⟨fun c2 => big 0 (by omega), fun c2 => big 1 (by omega)⟩⟩)
set_option maxHeartbeats 1000000 in
theorem pr_spared {a : Int} (hI : InvS m) (hH : InvH m) (hL : LawC m L) (hM : LawM m L)
    (hQ : ∀ x m1, MtX yX12_spared cX12_spared 4 (some .int) (d + 9) [vr 12 0, vi a] m1 (fun r m2 => r = some (vi x) ∧ FrM wRd m m2) → Q (some (vi x)) m1) : MtX yX11_spared cX11_spared 5 (some .int) (d + 9) [vr 11 0, vi a] m Q := by
  have hp := pOf_ok hH
  have hi := pOf_in hH
  have hn := hp.1
  obtain ⟨hN1, hN2⟩ := N_le hp
  have hN3 : m 2 0 5 = pOf m 10 := rfl
  have hN4 : m 12 0 1 = pOf m 10 := by rw [pOf_10]; exact hH.1.2.2.symm
  refine Y_met rfl 3 rfl (sg_X11_spared_0 _ _ _ (cc_refB hI fun x hx => ⟨x, rfl, fun c => ?_, fun c => ⟨trivial, hQ _ _ ?_⟩⟩))
  · unfold RfB at hx
    have ha : 0 ≤ a ∧ a ≤ 5 := by omega
    have hb : m 1359 0 a = -2 := by omega
    have hHC := pOf_hc hH hL
    -- the reference, once the answer of the class is known
    have fin : ∀ (m2 : AMem) (x : Int), FrS wSc 0 m m2 → (x = if finS (pOf m) L (mvSh m a) 26 = 2 then spB (pOf m) L (mvSh m a) (pOf m 10).toNat else 0) → Q (some (vi x)) m2 := by
      intro m2 x hF2 hx2
      refine hQ _ _ (Y_met rfl 2 rfl (sg_X12_spared_0 _ _ _ (cm_isShelf fun y hy => ⟨y, rfl, fun c2 => ?_, fun c2 => by omega⟩)))
      have hb2 : m2 1359 0 a = -2 := by rw [FrS_n hF2 (by decide) (by decide)]; exact hb
      refine cm_rowF ha fun v hv => ⟨v, rfl, fun c3 => ?_, fun c3 => by unfold RfB at hv; omega⟩
      have hHM2 : HalfM m2 (pOf m) L := HalfM_fr (FrS_M hF2) (by decide) (pOf_hm hH hM)
      have hBM2 : BasM m2 (pOf m) := BasM_fr (FrS_M hF2) (by decide) (pOf_bm hH)
      refine cm_raidS (most := 60) hp hi (by decide) hI ha hb (FrS_M hF2) (by decide) hHM2 hBM2 fun m3 hF3 hR3 h31 => ⟨rfl, ?_⟩
      rw [fin_M hp hi] at hR3
      rw [hR3.2.2.2.2.1]
      have hF30 : FrM wRd m m3 := FrM_trans (FrM_mono (FrS_M hF2) (by decide)) (FrM_mono hF3 (by decide))
      refine ⟨fun e => ?_, fun e => ⟨trivial, by rw [hx2, if_neg e], hF30⟩⟩
      rw [if_pos e] at hx2
      have key : ∀ (r k : Nat) (mm : AMem), k + r = (pOf m 10).toNat → FrM wRd m mm → Y cX12_spared 4 RX12 (d + 9) none 44 [some (vr 12 0), some (vi a), some (vi (spB (pOf m) L (mvSh m a) k)), some (vi k)] [] mm (fun r mem2 => rk (some .int) r ∧ r = some (vi x) ∧ FrM wRd m mem2) := by
        intro r
        induction r with
        | zero =>
          intro k mm hk hF
          have e2 : k = (pOf m 10).toNat := by omega
          have h1 : mm 12 0 1 = pOf m 10 := by rw [hF 12 0 1 (by decide)]; exact hN4
          exact sg_X12_spared_44 _ _ _ _ _ ⟨fun _ => ⟨trivial, by rw [hx2, e2], hF⟩, fun c => by omega⟩
        | succ r ih =>
          intro k mm hk hF
          have h1 : mm 12 0 1 = pOf m 10 := by rw [hF 12 0 1 (by decide)]; exact hN4
          have e1 : ((k + 1 : Nat) : Int) = (k : Int) + 1 := by omega
          have h5 : mm 1305 0 k = tbt (pOf m 11) k := by rw [FrM_n hF (by decide) (by decide)]; exact ((pOf_bm hH).1 k (by omega) (by omega)).2.2
          have t01 := tb01 hp.2.2.1 hp.2.2.2 (i := k) (by omega) (by omega)
          refine sg_X12_spared_44 _ _ _ _ _ ⟨fun c => by omega, fun c => ⟨by omega, ?_⟩⟩
          rw [h5, w32i (by omega) (by omega), ← e1]
          refine ⟨fun c2 => ⟨by omega, ?_⟩, fun c2 => ?_⟩
          · have ht : tbt (pOf m 11) k = 1 := by omega
            have hc := cl_rg hp.2.2.1 hp.2.2.2 (i := k) (by omega) (by omega)
            have hp3 : OkPa (upS (pOf m) 11 (clb (pOf m 11) k)) := OkPa_11 hp hc
            have hi3 : OkIn (upS (pOf m) 11 (clb (pOf m 11) k)) := OkIn_11 hp hi (by omega) (by omega)
            have hHM3 : HalfM (upM mm 1305 0 k 0) (upS (pOf m) 11 (clb (pOf m 11) k)) L := HalfM_11 hn.2 (HalfM_fr (W := 1305 :: wRd) (FrM_uk (FrM_mono hF (by decide)) (by decide) (by decide)) (by decide) (pOf_hm hH hM))
            have hBM3 : BasM (upM mm 1305 0 k 0) (upS (pOf m) 11 (clb (pOf m 11) k)) := by
              obtain ⟨b1, b2⟩ := BasM_fr hF (by decide) (pOf_bm hH)
              refine ⟨fun i g0 g1 => ?_, ?_⟩
              · rw [upS_n (by decide)] at g1
                have := b1 i g0 g1
                rw [upS_n (by omega), upS_n (by omega), upS_s, up_eq, tb_cl hp.2.2.1 hp.2.2.2 (by omega) (by omega) g0 (by omega)]
                refine ⟨this.1, this.2.1, ?_⟩
                split
                · rfl
                · exact this.2.2
              · rw [upS_n (by decide)]; exact b2
            refine cm_raidS (most := 60) hp3 hi3 (by decide) hI ha hb (W := 1305 :: wRd) (FrM_uk (FrM_mono hF (by decide)) (by decide) (by decide)) (by decide) hHM3 hBM3 fun m4 hF4 hR4 h31 => ⟨rfl, by omega, ?_⟩
            rw [fin_M hp3 hi3] at hR4
            have hF5 : FrM wRd m (upM m4 1305 0 k 1) := by
              have := FrM_back hF4
              rw [h5, ht] at this
              exact FrM_trans hF (FrM_mono this (by decide))
            rw [hR4.2.2.2.2.1]
            refine ⟨fun c3 => ?_, fun c3 => ?_⟩
            · have := ih (k + 1) _ (by omega) hF5
              rw [spB_s, if_neg (fun z => z.2 c3)] at this
              exact this
            · have := ih (k + 1) _ (by omega) hF5
              rw [spB_s, if_pos ⟨ht, c3⟩] at this
              exact this
          · have := ih (k + 1) _ (by omega) hF
            rw [spB_s, if_neg (by omega)] at this
            exact this
      exact key (pOf m 10).toNat 0 m3 (by omega) hF30
    refine cc_think (p := pOf m) hp hi hI ha hHC (pOf_bc hH) fun m1 hF1 hR1 => ⟨rfl, ?_⟩
    rw [hR1.2.2.2.2.2.2.2.2.2]
    refine ⟨fun e => ?_, fun e => ⟨trivial, fin m1 _ hF1 (by rw [if_neg e])⟩⟩
    have key : ∀ (r k : Nat) (mm : AMem), k + r = (pOf m 10).toNat → FrS wSc 0 m mm → Y cX11_spared 5 RX11 (d + 9) none 35 [some (vr 11 0), some (vi a), some (vi x), some (vi (spB (pOf m) L (mvSh m a) k)), some (vi k)] [] mm (fun r mem2 => rk (some .int) r ∧ Q r mem2) := by
      intro r
      induction r with
      | zero =>
        intro k mm hk hF
        have e2 : k = (pOf m 10).toNat := by omega
        have h1 : mm 2 0 5 = pOf m 10 := by rw [FrS_n hF (by decide) (by decide)]; exact hN3
        exact sg_X11_spared_35 _ _ _ _ _ _ ⟨fun _ => ⟨trivial, fin mm _ hF (by rw [if_pos e, e2])⟩, fun c => by omega⟩
      | succ r ih =>
        intro k mm hk hF
        have h1 : mm 2 0 5 = pOf m 10 := by rw [FrS_n hF (by decide) (by decide)]; exact hN3
        have h4 : mm 2 0 4 = pOf m 11 := by rw [FrS_n hF (by decide) (by decide)]; rfl
        have e1 : ((k + 1 : Nat) : Int) = (k : Int) + 1 := by omega
        have hsr := spB_rg (p := pOf m) (L := L) (mv := mvSh m a) (k := k) (by omega)
        refine sg_X11_spared_35 _ _ _ _ _ _ ⟨fun c => by omega, fun c => cc_isIn2 fun y hy => ?_⟩
        rw [h1, h4] at hy
        rw [w32i (by omega) (by omega), ← e1]
        refine ⟨y, rfl, fun c2 => ?_, fun c2 => ?_⟩
        · have := ih (k + 1) _ (by omega) hF
          rw [spB_s, if_neg (by omega)] at this
          exact this
        · have ht : tbt (pOf m 11) k = 1 := by omega
          have hc := cl_rg hp.2.2.1 hp.2.2.2 (i := k) (by omega) (by omega)
          have hp3 : OkPa (upS (pOf m) 11 (clb (pOf m 11) k)) := OkPa_11 hp hc
          have hi3 : OkIn (upS (pOf m) 11 (clb (pOf m 11) k)) := OkIn_11 hp hi (by omega) (by omega)
          have h14 := hi.2.2.1
          have hini : iniS (upS (pOf m) 11 (clb (pOf m 11) k)) = iniS (pOf m) := ini_u (by decide)
          refine cc_begin (p := pOf m) hp (BasC_S hF (pOf_bc hH)) fun m2 hF2 hR2 => ⟨rfl, by omega, ?_⟩
          have hF2' : FrS wSc 0 m m2 := FrS_trans hF (FrS_mono hF2 (by decide))
          rw [hR2.2.1.1]
          have hHC3 : HalfC (upM m2 7 0 3 (clb (pOf m 11) k)) (upS (pOf m) 11 (clb (pOf m 11) k)) L := HalfC_cg hn.2 (upS_n (by decide)) (upS_n (by decide)) (upS_n (by decide)) (fun i g0 g1 => upS_n (by omega)) (HalfC_S (FrS_u hF2' (by decide) (by decide)) hHC)
          have hR3 : RepC (upM m2 7 0 3 (clb (pOf m 11) k)) 0 (upS (pOf m) 11 (clb (pOf m 11) k)) (iniS (upS (pOf m) 11 (clb (pOf m 11) k))) := by rw [hini]; exact RepC_11 hR2
          refine cc_raidS (L := L) (p := upS (pOf m) 11 (clb (pOf m 11) k)) hp3 (by rw [upS_n (by decide)]; omega) (okS_ini hp3 hi3) (ini_o (by decide)) hI ha hHC3 (FrS_u hF2' (by decide) (by decide)) hR3 fun m3 hF3 hR3 => ⟨rfl, ?_⟩
          have hR3 : RepC m3 0 (upS (pOf m) 11 (clb (pOf m 11) k)) (finS (upS (pOf m) 11 (clb (pOf m 11) k)) L (mvSh m a)) := hR3
          rw [hR3.2.2.2.2.2.2.2.2.2]
          refine ⟨fun c3 => ?_, fun c3 => ?_⟩
          · have := ih (k + 1) _ (by omega) hF3
            rw [spB_s, if_pos ⟨ht, c3⟩] at this
            exact this
          · have := ih (k + 1) _ (by omega) hF3
            rw [spB_s, if_neg (fun z => z.2 c3)] at this
            rw [or_0 hsr.1 hsr.2]
            exact this
    exact key (pOf m 10).toNat 0 m1 (by omega) hF1
  · refine Y_met rfl 2 rfl (sg_X12_spared_0 _ _ _ (cm_isShelf fun y hy => ⟨y, rfl, fun c2 => ?_, fun c2 => ?_⟩))
    · refine cm_rowF (by omega) fun w hw => ⟨w, rfl, fun c4 => by unfold RfB at hx hw; omega, fun c4 => cm_rowF (by omega) fun w2 hw2 => ⟨w2, rfl, trivial, ?_, FrM_refl _ _⟩⟩
      have : w2 = x := by unfold RfB at hx hw2; omega
      rw [this]
    · have : x = -1 := by unfold RfB at hx; omega
      exact ⟨trivial, by rw [this], FrM_refl _ _⟩
end
theorem w32n {n : Nat} (h : n < 1000000) : w32 ((n : Int) + 1) = ((n + 1 : Nat) : Int) := (w32i (by omega) (by omega)).trans (by omega)
theorem tmodN {n : Nat} : Int.tmod (n : Int) 10 = ((n % 10 : Nat) : Int) := (tmod10 (by omega)).trans (by omega)
theorem tdivN {n : Nat} (h : n < 1000000) : w32 (Int.tdiv (n : Int) 10) = ((n / 10 : Nat) : Int) := by
  have e : Int.tdiv (n : Int) 10 = ((n / 10 : Nat) : Int) := (tdiv10 (by omega)).trans (by omega)
  rw [e]
  exact w32i (by omega) (by omega)
/-! stand -/
def stP (p : StR) (i c r : Int) : StR := upS (upS p (20 + i) c) (30 + i) r
def stVa (p : StR) (L : Option LnL) (mv : Int → Int) (i : Int) (t : Nat) : Int := ptS (finS (stP p i (t % 9 : Nat) (t / 9 + 1 : Nat)) L mv) - thS p (finS (stP p i (t % 9 : Nat) (t / 9 + 1 : Nat)) L mv)
def stG (V : Nat → Int) : Nat → Int × Int
  | 0 => (0, 1000)
  | t + 1 => if V t < (stG V t).2 then (10 * (t / 9 + 1 : Nat) + (t % 9 : Nat), V t) else stG V t
theorem stG_s {V : Nat → Int} {t : Nat} : stG V (t + 1) = if V t < (stG V t).2 then (10 * ((t / 9 + 1 : Nat) : Int) + ((t % 9 : Nat) : Int), V t) else stG V t := rfl
theorem stG_low {V : Nat → Int} {lo : Int} (hV : ∀ t, lo ≤ V t) {t : Nat} (h : (stG V t).2 ≤ lo) : ∀ k, stG V (t + k) = stG V t := by
  intro k
  induction k with
  | zero => rfl
  | succ k ih =>
    have := hV (t + k)
    rw [show t + (k + 1) = t + k + 1 by omega, stG_s, ih, if_neg (by omega)]
theorem stG_lt {V : Nat → Int} (hV : ∀ t, V t < 1000) : ∀ t, (stG V (t + 1)).2 < 1000 := by
  intro t
  have h0 := hV t
  rw [stG_s]
  split
  · exact h0
  · rename_i c
    cases t with
    | zero => exact absurd (show V 0 < 1000 from h0) c
    | succ t =>
      have := stG_lt hV t
      exact this
theorem ptS_rg {p s : StR} (hs : OkSt p s) : 0 ≤ ptS s ∧ ptS s ≤ 7 := by
  unfold ptS
  split
  · exact pop_rg hs.2.2.2.1.1 hs.2.2.2.1.2
  · decide
theorem thS_rg {p s : StR} : 0 ≤ thS p s ∧ thS p s ≤ pcS p := by
  unfold thS pcS
  (repeat' split) <;> omega
theorem pcS_rg {p : StR} : 1 ≤ pcS p ∧ pcS p ≤ 2 := by
  unfold pcS
  split <;> omega
theorem stP_k {p : StR} {i c r k : Int} (h0 : 0 ≤ i) (h : k < 20) : stP p i c r k = p k := by
  unfold stP
  rw [upS_n (by omega), upS_n (by omega)]
theorem stP_ok {p : StR} {i c r : Int} (hp : OkPa p) (h0 : 0 ≤ i) : OkPa (stP p i c r) := by
  have hn := hp.1
  unfold OkPa
  rw [stP_k h0 (by decide), stP_k h0 (by decide)]
  refine ⟨hp.1, fun k g0 g1 => ?_, hp.2.2⟩
  rw [stP_k h0 (by omega)]
  exact hp.2.1 k g0 g1
theorem stP_in {p : StR} {i c r : Int} (hp : OkPa p) (hi : OkIn p) (h0 : 0 ≤ i) (h1 : i < 7) (hc : 0 ≤ c ∧ c ≤ 8) (hr : 1 ≤ r ∧ r ≤ 8) : OkIn (stP p i c r) := by
  have hn := hp.1
  obtain ⟨a1, a2, a3, a4⟩ := hi
  unfold OkIn
  rw [stP_k h0 (by decide), stP_k h0 (by decide), stP_k h0 (by decide), stP_k h0 (by decide)]
  refine ⟨fun k g0 g1 => ?_, a2, a3, a4⟩
  have := a1 k g0 g1
  unfold stP
  by_cases e : k = i
  · subst e
    rw [upS_n (by omega), upS_s, upS_s]
    exact ⟨hc, hr⟩
  · rw [upS_n (by omega), upS_n (by omega), upS_n (by omega), upS_n (by omega)]
    exact this
theorem stP_ini {p : StR} {i c r : Int} (h0 : 0 ≤ i) (h1 : i < 7) : iniS (stP p i c r) = upS (upS (iniS p) i c) (10 + i) r := by
  funext k
  unfold iniS stP upS
  (try dsimp only)
  by_cases k1 : 0 ≤ k ∧ k < 7
  · rw [if_pos k1, if_neg (show ¬ (20 + k = 30 + i) by omega), if_neg (show ¬ k = 10 + i by omega)]
    by_cases e : k = i
    · rw [if_pos (show 20 + k = 20 + i by omega), if_pos e]
    · rw [if_neg (show ¬ 20 + k = 20 + i by omega), if_neg e, if_pos k1]
  · rw [if_neg k1]
    by_cases k2 : 10 ≤ k ∧ k < 17
    · rw [if_pos k2]
      by_cases e : k = 10 + i
      · rw [if_pos (show 20 + k = 30 + i by omega), if_pos e]
      · rw [if_neg (show ¬ 20 + k = 30 + i by omega), if_neg (show ¬ 20 + k = 20 + i by omega), if_neg e, if_neg (show ¬ k = i by omega), if_neg k1, if_pos k2]
    · rw [if_neg k2, if_neg (show ¬ k = 10 + i by omega), if_neg (show ¬ k = i by omega), if_neg k1, if_neg k2]
      by_cases e : k = 20
      · rw [if_pos e, if_pos e, if_neg (show ¬ (16 : Int) = 30 + i by omega), if_neg (show ¬ (16 : Int) = 20 + i by omega)]
      · rw [if_neg e, if_neg e]
section
variable {d : Nat} {L : Option LnL} {m : AMem} {Q : Option AV → AMem → Prop}
theorem FrM_ow2 {W : List Nat} {m m2 : AMem} {k1 k2 : Nat} {i c r c2 r2 : Int} (h : FrM W (upM (upM m k1 0 i c) k2 0 i r) m2) : FrM W (upM (upM m k1 0 i c2) k2 0 i r2) (upM (upM m2 k1 0 i c2) k2 0 i r2) := by
  intro k j x hc
  have := h k j x hc
  unfold upM at this ⊢
  by_cases e1 : k = k2
  · by_cases e2 : j = 0
    · by_cases e3 : x = i
      · simp [e1, e2, e3]
      · simp [e1, e2, e3] at this ⊢
        simp [this]
    · simp [e1, e2] at this ⊢
      exact this
  · by_cases e4 : k = k1
    · by_cases e2 : j = 0
      · by_cases e3 : x = i
        · simp [e1, e2, e3, e4]
        · simp [e1, e2, e3, e4] at this ⊢
          simp [this]
      · simp [e1, e2, e4] at this ⊢
        simp [this]
    · simp [e1, e4] at this ⊢
      exact this
set_option maxHeartbeats 2000000 in
theorem pr_stand {a i b : Int} (hI : InvS m) (hH : InvH m) (hL : LawC m L) (hM : LawM m L)
    (hQ : ∀ x m1, MtX yX12_stand cX12_stand 10 (some .int) (d + 9) [vr 12 0, vi a, vi i, vi b] m1 (fun r m2 => r = some (vi x) ∧ FrM wRd m m2) → Q (some (vi x)) m1) : MtX yX11_stand cX11_stand 10 (some .int) (d + 9) [vr 11 0, vi a, vi i, vi b] m Q := by
  have hp := pOf_ok hH
  have hi := pOf_in hH
  have hn := hp.1
  have h14 := hi.2.2.1
  have hN3 : m 2 0 5 = pOf m 10 := rfl
  have hN4 : m 12 0 1 = pOf m 10 := by rw [pOf_10]; exact hH.1.2.2.symm
  have hbm := pOf_bm hH
  have bad : (∀ x, RfB m a x → x ≠ 0 ∨ ¬ (0 ≤ i ∧ i < pOf m 10) ∨ tbt (pOf m 11) i ≠ 1 ∨ ¬ (0 ≤ b ∧ b ≤ 1)) → Q (some (vi (-2000000000))) m := by
    intro hx
    refine hQ _ _ (Y_met rfl 6 rfl (sg_X12_stand_0 _ _ _ _ _ (cm_isShelf fun y hy => ⟨y, rfl, fun c => ⟨trivial, rfl, FrM_refl _ _⟩, fun c => cm_isDefender (by omega) fun z hz => ⟨z, rfl, fun c2 => ⟨trivial, rfl, FrM_refl _ _⟩, fun c2 => ⟨by omega, fun c3 => ⟨trivial, rfl, FrM_refl _ _⟩, fun c3 => cm_in fun u hu => ⟨u, rfl, fun c4 => ⟨trivial, rfl, FrM_refl _ _⟩, fun c4 => cm_rowF (by omega) fun w hw => ⟨w, rfl, fun c5 => ?_, fun c5 => ⟨trivial, rfl, FrM_refl _ _⟩⟩⟩⟩⟩⟩)))
    exfalso
    have h1 := hx w hw
    have h2 := (hbm.1 i (by omega) (by omega)).2.2
    have h3 := tb01 hp.2.2.1 hp.2.2.2 (i := i) (by omega) (by omega)
    unfold RfB at hw
    omega
  refine Y_met rfl 6 rfl (sg_X11_stand_0 _ _ _ _ _ (cc_refB hI fun x hx => ⟨x, rfl, fun c => ⟨trivial, bad fun y hy => ?_⟩, fun c => ?_⟩))
  · left; unfold RfB at hx hy; omega
  have ha : 0 ≤ a ∧ a ≤ 5 := by unfold RfB at hx; omega
  have hb : m 1359 0 a = -2 := by unfold RfB at hx; omega
  refine cc_isIn2 fun y hy => ⟨y, rfl, fun c2 => ⟨trivial, bad fun _ _ => ?_⟩, fun c2 => ⟨fun c3 => ⟨trivial, bad fun _ _ => by omega⟩, fun c3 => ⟨fun c4 => ?_, fun c4 => ⟨trivial, bad fun _ _ => by omega⟩⟩⟩⟩
  · have hy : y = 1 ∧ (0 ≤ i ∧ i < pOf m 10) ∧ tbt (pOf m 11) i = 1 ∨ y = 0 ∧ ¬ ((0 ≤ i ∧ i < pOf m 10) ∧ tbt (pOf m 11) i = 1) := hy
    by_cases q : 0 ≤ i ∧ i < pOf m 10
    · right; right; left
      intro z
      rcases hy with hy | hy
      · omega
      · exact hy.2 ⟨q, z⟩
    · right; left; exact q
  have hin : (0 ≤ i ∧ i < pOf m 10) ∧ tbt (pOf m 11) i = 1 := by
    have hy : y = 1 ∧ (0 ≤ i ∧ i < pOf m 10) ∧ tbt (pOf m 11) i = 1 ∨ y = 0 ∧ ¬ ((0 ≤ i ∧ i < pOf m 10) ∧ tbt (pOf m 11) i = 1) := hy
    rcases hy with hy | hy
    · exact hy.2
    · omega
  have hHC := pOf_hc hH hL
  have hpc := pcS_rg (p := pOf m)
  generalize hVd : stVa (pOf m) L (mvSh m a) i = V
  -- a raid from a cell
  have hq : ∀ t : Nat, t < 72 → OkPa (stP (pOf m) i (t % 9 : Nat) (t / 9 + 1 : Nat)) ∧ OkIn (stP (pOf m) i (t % 9 : Nat) (t / 9 + 1 : Nat)) := fun t ht => ⟨stP_ok hp hin.1.1, stP_in hp hi hin.1.1 (by omega) (by omega) (by omega)⟩
  have hths : ∀ c r s, thS (stP (pOf m) i c r) s = thS (pOf m) s := by
    intro c r s
    unfold thS pcS
    rw [stP_k hin.1.1 (by decide), stP_k hin.1.1 (by decide)]
  have hVr : ∀ t, t < 72 → -(pcS (pOf m)) ≤ V t ∧ V t ≤ 7 := by
    intro t ht
    rw [← hVd]
    unfold stVa
    have h1 := fin_ok (L := L) (mv := mvSh m a) (hq t ht).1 (hq t ht).2
    have h2 := ptS_rg h1
    have h3 := thS_rg (p := pOf m) (s := finS (stP (pOf m) i (t % 9 : Nat) (t / 9 + 1 : Nat)) L (mvSh m a))
    omega
  -- beyond the cells
  generalize hWd : (fun t => if t < 72 then V t else 0) = W
  have hWV : ∀ t, t < 72 → W t = V t := fun t ht => by rw [← hWd]; exact if_pos ht
  have hWr : ∀ t, -(pcS (pOf m)) ≤ W t ∧ W t ≤ 7 := by
    intro t
    rw [← hWd]
    dsimp only
    split
    · rename_i ht; exact hVr t ht
    · omega
  -- the reference
  have fin : ∀ (m2 : AMem) (x : Int), FrS wSc 0 m m2 → (x = if b = 0 then (stG W 72).1 else (stG W 72).2) → Q (some (vi x)) m2 := by
    intro m2 x hF2 hx2
    have hF2m := FrS_M hF2
    have h1 : m2 12 0 1 = pOf m 10 := by rw [hF2m 12 0 1 (by decide)]; exact hN4
    have h5 : m2 1305 0 i = 1 := by rw [FrM_n hF2m (by decide) (by decide), (hbm.1 i (by omega) (by omega)).2.2]; exact hin.2
    have hb2 : m2 1359 0 a = -2 := by rw [FrS_n hF2 (by decide) (by decide)]; exact hb
    refine hQ _ _ (Y_met rfl 6 rfl (sg_X12_stand_0 _ _ _ _ _ (cm_isShelf fun y hy => ⟨y, rfl, fun c => by omega, fun c => cm_isDefender (by omega) fun z hz => ⟨z, rfl, fun c2 => by omega, fun c2 => ⟨by omega, fun c3 => by omega, fun c3 => cm_in fun u hu => ⟨u, rfl, fun c4 => by omega, fun c4 => cm_rowF (by omega) fun w hw => ⟨w, rfl, fun c5 => ⟨by omega, by omega, ?_⟩, fun c5 => by unfold RfB at hw; omega⟩⟩⟩⟩⟩)))
    have hHM2 : HalfM m2 (pOf m) L := HalfM_fr hF2m (by decide) (pOf_hm hH hM)
    have hBM2 : BasM m2 (pOf m) := BasM_fr hF2m (by decide) (pOf_bm hH)
    have done : ∀ (mm : AMem) (c r : Int), FrM (5036 :: wMo) (upM (upM m2 1302 0 i c) 1303 0 i r) mm → FrM wRd m (upM (upM mm 1302 0 i (m2 1302 0 i)) 1303 0 i (m2 1303 0 i)) := by
      intro mm c r hF
      have := FrM_ow2 (c2 := m2 1302 0 i) (r2 := m2 1303 0 i) hF
      rw [up_id (m := m2) rfl, up_id (m := m2) rfl] at this
      exact FrM_trans (FrM_mono hF2m (by decide)) (FrM_mono this (by decide))
    have key : ∀ (n : Nat) (rc : Nat) (b6 b7 : Int) (mm : AMem) (c r : Int), rc + n = 89 → 10 ≤ rc → ((rc = 10 ∧ b6 = -1) ∨ (10 < rc ∧ (b6, b7) = stG W (9 * (rc / 10 - 1) + min (rc % 10) 9))) → FrM (5036 :: wMo) (upM (upM m2 1302 0 i c) 1303 0 i r) mm →
        Y cX12_stand 10 RX12 (d + 9) none 71 [some (vr 12 0), some (vi a), some (vi i), some (vi b), some (vi (m2 1302 0 i)), some (vi (m2 1303 0 i)), some (vi b6), some (vi b7), some (vi rc), none] [] mm (fun r mem2 => rk (some .int) r ∧ r = some (vi x) ∧ FrM wRd m mem2) := by
      intro n
      induction n with
      | zero =>
        intro rc b6 b7 mm c r hrc h10 hG hF
        have e : rc = 89 := by omega
        subst e
        have hG : (b6, b7) = stG W 72 := by
          rcases hG with hG | hG
          · omega
          · exact hG.2
        rw [← hG] at hx2
        refine sg_X12_stand_71 _ _ _ _ _ _ _ _ _ _ ⟨fun _ => ⟨by omega, by omega, fun c1 => ⟨trivial, by rw [hx2, if_neg c1], done mm c r hF⟩, fun c1 => ⟨trivial, by rw [hx2, if_pos c1], done mm c r hF⟩⟩, fun c => absurd (by decide) c⟩
      | succ n ih =>
        intro rc b6 b7 mm c r hrc h10 hG hF
        refine sg_X12_stand_71 _ _ _ _ _ _ _ _ _ _ ⟨fun c => by omega, fun _ => ?_⟩
        rw [tmodN, tdivN (by omega), w32n (by omega)]
        refine cm_isColumn fun v hv => ⟨v, rfl, fun c2 => ⟨by omega, by omega, ?_⟩, fun c2 => ?_⟩
        · -- a cell
          have ht : 9 * (rc / 10 - 1) + rc % 10 < 72 := by omega
          generalize htd : 9 * (rc / 10 - 1) + rc % 10 = t at ht
          have e9 : rc % 10 = t % 9 := by omega
          have e8 : rc / 10 = t / 9 + 1 := by omega
          have hF3 := FrM_ow2 (c2 := ((rc % 10 : Nat) : Int)) (r2 := ((rc / 10 : Nat) : Int)) hF
          have hHM3 : HalfM (upM (upM mm 1302 0 i (rc % 10 : Nat)) 1303 0 i (rc / 10 : Nat)) (stP (pOf m) i (t % 9 : Nat) (t / 9 + 1 : Nat)) L := by
            have := HalfM_fr hF3 (by decide) (HalfM_fr (W := [1302, 1303]) (FrM_uk (FrM_uk (FrM_refl _ _) (by decide) (by decide)) (by decide) (by decide)) (by decide) hHM2)
            obtain ⟨g1, g2, g3, g4⟩ := this
            unfold HalfM
            rw [stP_k hin.1.1 (by decide), stP_k hin.1.1 (by decide), stP_k hin.1.1 (by decide), stP_k hin.1.1 (by decide), stP_k hin.1.1 (by decide)]
            refine ⟨g1, fun k q0 q1 => ?_, g3, g4⟩
            rw [stP_k hin.1.1 (by omega)]
            exact g2 k q0 q1
          have hBM3 : BasM (upM (upM mm 1302 0 i (rc % 10 : Nat)) 1303 0 i (rc / 10 : Nat)) (stP (pOf m) i (t % 9 : Nat) (t / 9 + 1 : Nat)) := by
            refine BasM_fr hF3 (by decide) ?_
            unfold BasM
            rw [stP_k hin.1.1 (by decide), stP_k hin.1.1 (by decide), stP_k hin.1.1 (by decide)]
            refine ⟨fun k q0 q1 => ?_, hBM2.2⟩
            have := hBM2.1 k q0 q1
            rw [e9, e8]
            unfold stP
            by_cases e : k = i
            · subst e
              rw [upS_n (by omega), upS_s, upS_s]
              simp [upM]
              exact this.2.2
            · rw [upS_n (by omega), upS_n (by omega), upS_n (by omega), upS_n (by omega)]
              simp [upM, e]
              exact this
          refine cm_raidS (most := 60) (hq t ht).1 (hq t ht).2 (by decide) hI ha hb (W := 1302 :: 1303 :: wRd) (FrM_uk (FrM_uk (FrM_trans (FrM_mono hF2m (by decide)) (FrM_trans (FrM_uk (W := 1302 :: 1303 :: wRd) (FrM_uk (FrM_refl _ _) (by decide) (by decide)) (by decide) (by decide)) (FrM_mono hF (by decide)))) (by decide) (by decide)) (by decide) (by decide)) (by decide) hHM3 hBM3 fun m4 hF4 hR4 h31 => ⟨rfl, ?_⟩
          rw [fin_M (hq t ht).1 (hq t ht).2] at hR4
          have hok := fin_ok (L := L) (mv := mvSh m a) (hq t ht).1 (hq t ht).2
          have hHM4 := HalfM_fr hF4 (by decide) hHM3
          refine cm_pts hR4 hok ⟨_, rfl, ?_⟩
          refine cm_ths (hq t ht).1 hHM4 hR4 ⟨_, rfl, ?_⟩
          have hF5 := FrM_trans hF3 hF4
          have hVt : ptS (finS (stP (pOf m) i (t % 9 : Nat) (t / 9 + 1 : Nat)) L (mvSh m a)) - thS (stP (pOf m) i (t % 9 : Nat) (t / 9 + 1 : Nat)) (finS (stP (pOf m) i (t % 9 : Nat) (t / 9 + 1 : Nat)) L (mvSh m a)) = W t := by
            rw [hths, hWV t ht, ← hVd]
            rfl
          rw [hVt]
          have hr := hWr t
          rw [w32i (z := W t) (by omega) (by omega)]
          have emin : min (rc % 10) 9 = rc % 10 := by omega
          rw [emin, htd] at hG
          have ht1 : 9 * ((rc + 1) / 10 - 1) + min ((rc + 1) % 10) 9 = t + 1 := by omega
          have hcell : (10 * ((t / 9 + 1 : Nat) : Int) + ((t % 9 : Nat) : Int)) = rc := by omega
          have nx := fun b6 b7 hh => ih (rc + 1) b6 b7 m4 _ _ (by omega) (by omega) (Or.inr ⟨by omega, hh⟩) hF5
          rw [ht1] at nx
          have up : (stG W t).2 > W t → Y cX12_stand 10 RX12 (d + 9) none 71 [some (vr 12 0), some (vi a), some (vi i), some (vi b), some (vi (m2 1302 0 i)), some (vi (m2 1303 0 i)), some (vi rc), some (vi (W t)), some (vi ((rc + 1 : Nat) : Int)), some (vi (W t))] [] m4 (fun r mem2 => rk (some .int) r ∧ r = some (vi x) ∧ FrM wRd m mem2) := fun hlt => Y_fg (by exact ⟨rfl, rfl, rfl, rfl, rfl, rfl, rfl, rfl, rfl, trivial⟩) (nx rc (W t) (by rw [stG_s, if_pos hlt, hcell]))
          have keep : ¬ (stG W t).2 > W t → (b6, b7) = stG W t → Y cX12_stand 10 RX12 (d + 9) none 71 [some (vr 12 0), some (vi a), some (vi i), some (vi b), some (vi (m2 1302 0 i)), some (vi (m2 1303 0 i)), some (vi b6), some (vi b7), some (vi ((rc + 1 : Nat) : Int)), some (vi (W t))] [] m4 (fun r mem2 => rk (some .int) r ∧ r = some (vi x) ∧ FrM wRd m mem2) := fun hlt hg => Y_fg (by exact ⟨rfl, rfl, rfl, rfl, rfl, rfl, rfl, rfl, rfl, trivial⟩) (nx b6 b7 (by rw [stG_s, if_neg hlt]; exact hg))
          rcases hG with hG | hG
          · have e0 : t = 0 := by omega
            have hlt : (stG W t).2 > W t := by rw [e0]; show W 0 < 1000; have := hWr 0; omega
            exact ⟨fun _ => up hlt, fun c3 => by omega⟩
          · have hb7 : b7 = (stG W t).2 := by rw [← hG.2]
            have hb6 : 0 ≤ b6 := by
              have e6 : b6 = (stG W t).1 := by rw [← hG.2]
              rw [e6]
              have : ∀ t, 0 ≤ (stG W t).1 := by
                intro t
                induction t with
                | zero => exact Int.le_refl 0
                | succ t iht =>
                  rw [stG_s]
                  split
                  · dsimp only; omega
                  · exact iht
              exact this t
            exact ⟨fun c3 => by omega, fun _ => ⟨fun c4 => up (by omega), fun c4 => keep (by omega) hG.2⟩⟩
        · -- no cell
          have e9 : rc % 10 = 9 := by omega
          have nx := ih (rc + 1) b6 b7 mm c r (by omega) (by omega) (Or.inr ⟨by omega, ?_⟩) hF
          · exact nx
          · rcases hG with hG | hG
            · omega
            · rw [show 9 * ((rc + 1) / 10 - 1) + min ((rc + 1) % 10) 9 = 9 * (rc / 10 - 1) + min (rc % 10) 9 by omega]
              exact hG.2
    have := key 79 10 (-1) 0 m2 (m2 1302 0 i) (m2 1303 0 i) (by decide) (by decide) (Or.inl ⟨rfl, rfl⟩) (by rw [up_id (m := m2) rfl, up_id (m := m2) rfl]; exact FrM_refl _ _)
    exact this
  -- the class
  refine cc_pcatch hp.2.2 ⟨_, rfl, ?_⟩
  have hpe : (if popB (m 2 0 4) ≤ 3 then (2 : Int) else 1) = pcS (pOf m) := rfl
  rw [hpe, w32i (z := -(pcS (pOf m))) (by omega) (by omega)]
  have key : ∀ (n : Nat) (row : Nat) (mm : AMem), row + n = 9 → 1 ≤ row → FrS wSc 0 m mm → Y cX11_stand 10 RX11 (d + 9) none 52 [some (vr 11 0), some (vi a), some (vi i), some (vi b), some (vi (stG W (9 * (row - 1))).1), some (vi (stG W (9 * (row - 1))).2), some (vi (-(pcS (pOf m)))), some (vi row), none, none] [] mm (fun r mem2 => rk (some .int) r ∧ Q r mem2) := by
    intro n
    induction n with
    | zero =>
      intro row mm hrow h1 hF
      have e : row = 9 := by omega
      subst e
      exact sg_X11_stand_52 _ _ _ _ _ _ _ _ _ ⟨fun _ => ⟨fun c => ⟨trivial, fin mm _ hF (by rw [if_neg c])⟩, fun c => ⟨trivial, fin mm _ hF (by rw [if_pos c])⟩⟩, fun c => absurd (by decide) c⟩
    | succ n ih =>
      intro row mm hrow h1 hF
      refine sg_X11_stand_52 _ _ _ _ _ _ _ _ _ ⟨fun c => by omega, fun _ => ?_⟩
      have inner : ∀ (q col : Nat) (mm : AMem), col + q = 9 → FrS wSc 0 m mm → Y cX11_stand 10 RX11 (d + 9) none 62 [some (vr 11 0), some (vi a), some (vi i), some (vi b), some (vi (stG W (9 * (row - 1) + col)).1), some (vi (stG W (9 * (row - 1) + col)).2), some (vi (-(pcS (pOf m)))), some (vi row), some (vi col), none] [] mm (fun r mem2 => rk (some .int) r ∧ Q r mem2) := by
        intro q
        induction q with
        | zero =>
          intro col mm hcol hF
          have e : col = 9 := by omega
          subst e
          refine sg_X11_stand_62 _ _ _ _ _ _ _ _ _ _ ⟨fun _ => ?_, fun c => absurd (by decide) c⟩
          rw [w32n (by omega)]
          have := ih (row + 1) mm (by omega) (by omega) hF
          rw [show 9 * (row + 1 - 1) = 9 * (row - 1) + 9 by omega] at this
          exact Y_fg (by exact ⟨rfl, rfl, rfl, rfl, rfl, rfl, rfl, rfl, trivial⟩) this
        | succ q ihq =>
          intro col mm hcol hF
          refine sg_X11_stand_62 _ _ _ _ _ _ _ _ _ _ ⟨fun c => by omega, fun _ => ⟨fun c => ?_, fun c => ?_⟩⟩
          · rw [w32n (by omega)]
            have := ih (row + 1) mm (by omega) (by omega) hF
            rw [show 9 * (row + 1 - 1) = 9 * (row - 1) + col + (9 - col) by omega, stG_low (fun t => (hWr t).1) c] at this
            exact Y_fg (by exact ⟨rfl, rfl, rfl, rfl, rfl, rfl, rfl, rfl, trivial⟩) this
          · generalize htd : 9 * (row - 1) + col = t at *
            have ht : t < 72 := by omega
            have e9 : ((t % 9 : Nat) : Int) = col := by omega
            have e8 : ((t / 9 + 1 : Nat) : Int) = row := by omega
            refine cc_begin (p := pOf m) hp (BasC_S hF (pOf_bc hH)) fun m2 hF2 hR2 => ⟨rfl, by omega, by omega, by omega, ?_⟩
            have hF2' : FrS wSc 0 m m2 := FrS_trans hF (FrS_mono hF2 (by decide))
            have hF3 : FrS wSc 0 m (upM (upM m2 800 0 i col) 801 0 i row) := FrS_u (FrS_u hF2' (by decide) (by decide)) (by decide) (by decide)
            have hR3 : RepC (upM (upM m2 800 0 i col) 801 0 i row) 0 (stP (pOf m) i (t % 9 : Nat) (t / 9 + 1 : Nat)) (iniS (stP (pOf m) i (t % 9 : Nat) (t / 9 + 1 : Nat))) := by
              rw [stP_ini hin.1.1 (by omega), e9, e8]
              exact RepC_cg (stP_k hin.1.1 (by decide)) (stP_k hin.1.1 (by decide)) (stP_k hin.1.1 (by decide)) (stP_k hin.1.1 (by decide)) (RepC_r hn.2 hin.1.1 hin.1.2 (RepC_c hn.2 hin.1.1 hin.1.2 hR2))
            have hHC3 : HalfC (upM (upM m2 800 0 i col) 801 0 i row) (stP (pOf m) i (t % 9 : Nat) (t / 9 + 1 : Nat)) L := HalfC_cg hn.2 (stP_k hin.1.1 (by decide)) (stP_k hin.1.1 (by decide)) (stP_k hin.1.1 (by decide)) (fun k g0 g1 => stP_k hin.1.1 (by omega)) (HalfC_S hF3 hHC)
            refine cc_raidS (L := L) (hq t ht).1 (by rw [stP_k hin.1.1 (by decide)]; omega) (okS_ini (hq t ht).1 (hq t ht).2) (ini_o (by decide)) hI ha hHC3 hF3 hR3 fun m4 hF4 hR4 => ⟨rfl, ?_⟩
            have hR4 : RepC m4 0 (stP (pOf m) i (t % 9 : Nat) (t / 9 + 1 : Nat)) (finS (stP (pOf m) i (t % 9 : Nat) (t / 9 + 1 : Nat)) L (mvSh m a)) := hR4
            have hok := fin_ok (L := L) (mv := mvSh m a) (hq t ht).1 (hq t ht).2
            have hHC4 : HalfC m4 (stP (pOf m) i (t % 9 : Nat) (t / 9 + 1 : Nat)) L := HalfC_cg hn.2 (stP_k hin.1.1 (by decide)) (stP_k hin.1.1 (by decide)) (stP_k hin.1.1 (by decide)) (fun k g0 g1 => stP_k hin.1.1 (by omega)) (HalfC_S hF4 hHC)
            have h11 : m4 2 0 4 = stP (pOf m) i (t % 9 : Nat) (t / 9 + 1 : Nat) 11 := by rw [stP_k hin.1.1 (by decide), FrS_n hF4 (by decide) (by decide)]; rfl
            refine cc_pts hR4 hok ⟨_, rfl, ?_⟩
            refine cc_ths (hq t ht).1 hHC4 h11 hR4 ⟨_, rfl, ?_⟩
            have hVt : ptS (finS (stP (pOf m) i (t % 9 : Nat) (t / 9 + 1 : Nat)) L (mvSh m a)) - thS (stP (pOf m) i (t % 9 : Nat) (t / 9 + 1 : Nat)) (finS (stP (pOf m) i (t % 9 : Nat) (t / 9 + 1 : Nat)) L (mvSh m a)) = W t := by
              rw [hths, hWV t ht, ← hVd]
              rfl
            have hr := hWr t
            rw [hVt, w32i (z := W t) (by omega) (by omega), w32n (n := col) (by omega), w32i (z := 10 * (row : Int)) (by omega) (by omega), w32i (z := 10 * (row : Int) + col) (by omega) (by omega)]
            have nx := ihq (col + 1) m4 (by omega) hF4
            rw [show 9 * (row - 1) + (col + 1) = t + 1 by omega, stG_s] at nx
            refine ⟨fun c3 => ?_, fun c3 => ?_⟩
            · rw [if_neg (by omega)] at nx
              exact Y_fg (by exact ⟨rfl, rfl, rfl, rfl, rfl, rfl, rfl, rfl, rfl, trivial⟩) nx
            · rw [if_pos (by omega), e9, e8] at nx
              exact Y_fg (by exact ⟨rfl, rfl, rfl, rfl, rfl, rfl, rfl, rfl, rfl, trivial⟩) nx
      have := inner 9 0 mm (by decide) hF
      exact this
  have := key 8 1 m (by decide) (by decide) (FrS_refl _ _ _)
  exact this
end
