/-! what is asked of raids: both sides -/
def pOf (m : AMem) : StR := fun k => if 0 ≤ k ∧ k < 7 then m 302 0 k else if k = 10 then m 2 0 5 else if k = 11 then m 2 0 4 else if k = 12 then m 303 0 5 else if k = 13 then m 303 0 6 else if k = 14 then m 303 0 4 else if k = 15 then m 303 0 8 else if k = 16 then m 303 0 7 else if 20 ≤ k ∧ k < 27 then m 300 0 (k - 20) else if 30 ≤ k ∧ k < 37 then m 301 0 (k - 30) else 0
theorem pOf_s {m : AMem} {i : Int} (h0 : 0 ≤ i) (h1 : i < 7) : pOf m i = m 302 0 i := if_pos ⟨h0, h1⟩
theorem pOf_c {m : AMem} {i : Int} (h0 : 0 ≤ i) (h1 : i < 7) : pOf m (20 + i) = m 300 0 i := by
  unfold pOf
  rw [if_neg (by omega), if_neg (by omega), if_neg (by omega), if_neg (by omega), if_neg (by omega), if_neg (by omega), if_neg (by omega), if_neg (by omega), if_pos (by omega)]
  congr 1
  omega
theorem pOf_r {m : AMem} {i : Int} (h0 : 0 ≤ i) (h1 : i < 7) : pOf m (30 + i) = m 301 0 i := by
  unfold pOf
  rw [if_neg (by omega), if_neg (by omega), if_neg (by omega), if_neg (by omega), if_neg (by omega), if_neg (by omega), if_neg (by omega), if_neg (by omega), if_neg (by omega), if_pos (by omega)]
  congr 1
  omega
theorem pOf_10 {m : AMem} : pOf m 10 = m 2 0 5 := rfl
theorem pOf_11 {m : AMem} : pOf m 11 = m 2 0 4 := rfl
section
variable {m : AMem} {L : Option LnL}
theorem inv_told (hI : InvH m) : (m 1306 0 0 = m 303 0 4 ∧ 1 ≤ m 303 0 4 ∧ m 303 0 4 ≤ 60) ∧ (m 1306 0 1 = m 303 0 5) ∧ (m 1306 0 2 = m 303 0 6 ∧ 0 ≤ m 303 0 6 ∧ m 303 0 6 ≤ 40) ∧ (m 1306 0 3 = m 303 0 7 ∧ 0 ≤ m 303 0 7 ∧ m 303 0 7 ≤ 8) ∧ (m 1306 0 4 = m 303 0 8) := by
  have h4 := hI.2.2.2 4 (by decide) (by decide)
  have h5 := hI.2.2.2 5 (by decide) (by decide)
  have h6 := hI.2.2.2 6 (by decide) (by decide)
  have h7 := hI.2.2.2 7 (by decide) (by decide)
  have h8 := hI.2.2.2 8 (by decide) (by decide)
  simp [okV, romL] at h4 h5 h6 h7 h8
  omega
theorem pOf_ok (hI : InvH m) : OkPa (pOf m) := by
  obtain ⟨⟨a1, a2, a3⟩, b, ⟨c1, c2, c3⟩, e⟩ := hI
  refine ⟨?_, fun i g0 g1 => ?_, ?_⟩
  · rw [pOf_10]; omega
  · rw [pOf_10] at g1
    rw [pOf_s g0 (by omega)]
    have := b i g0 (by omega)
    omega
  · rw [pOf_11]; omega
theorem pOf_in (hI : InvH m) : OkIn (pOf m) := by
  have ht := inv_told hI
  obtain ⟨⟨a1, a2, a3⟩, b, ⟨c1, c2, c3⟩, e⟩ := hI
  refine ⟨fun i g0 g1 => ?_, ?_, ?_, fun i g0 g1 => ?_⟩
  · rw [pOf_10] at g1
    rw [pOf_c g0 (by omega), pOf_r g0 (by omega)]
    have := b i g0 (by omega)
    omega
  · exact ht.2.2.2.1.2
  · exact ht.1.2
  · rw [pOf_10] at g0
    exact c3 i (by omega) g1
theorem pOf_hc (hI : InvH m) (hL : LawC m L) : HalfC m (pOf m) L := by
  obtain ⟨⟨a1, a2, a3⟩, b, c, e⟩ := hI
  refine ⟨rfl, fun i g0 g1 => ?_, rfl, rfl, hL⟩
  rw [pOf_10] at g1
  rw [pOf_s g0 (by omega)]
theorem pOf_hm (hI : InvH m) (hL : LawM m L) : HalfM m (pOf m) L := by
  have ht := inv_told hI
  obtain ⟨⟨a1, a2, a3⟩, b, c, e⟩ := hI
  refine ⟨a3.symm, fun i g0 g1 => ?_, ⟨ht.1.1, ht.2.1, ht.2.2.1.1, ht.2.2.2.2⟩, hL⟩
  rw [pOf_10] at g1
  rw [pOf_s g0 (by omega)]
  exact (b i g0 (by omega)).2.2.1.1.symm
theorem pOf_bc (hI : InvH m) : BasC m (pOf m) := by
  obtain ⟨⟨a1, a2, a3⟩, b, c, e⟩ := hI
  refine ⟨fun i g0 g1 => ?_, rfl, rfl, rfl, rfl⟩
  rw [pOf_10] at g1
  rw [pOf_c g0 (by omega), pOf_r g0 (by omega)]
  exact ⟨rfl, rfl⟩
theorem pOf_bm (hI : InvH m) : BasM m (pOf m) := by
  have ht := inv_told hI
  obtain ⟨⟨a1, a2, a3⟩, b, c, e⟩ := hI
  refine ⟨fun i g0 g1 => ?_, ht.2.2.2.1.1⟩
  rw [pOf_10] at g1
  rw [pOf_c g0 (by omega), pOf_r g0 (by omega), pOf_11]
  have := b i g0 (by omega)
  omega
end
/-- the move of a second on a shelf -/
def mvSh (m : AMem) (a i : Int) : Int := if i < m 1360 0 a ∧ 0 ≤ m 1361 0 (60 * a + i) ∧ m 1361 0 (60 * a + i) ≤ 4 then m 1361 0 (60 * a + i) else 0
def RfB (m : AMem) (a x : Int) : Prop := (x = -1 ∧ ¬ (0 ≤ a ∧ a ≤ 5)) ∨ ((0 ≤ a ∧ a ≤ 5) ∧ ((m 1359 0 a = -1 ∧ x = -11) ∨ (m 1359 0 a ≠ -1 ∧ m 1359 0 a ≠ -2 ∧ x = -12) ∨ (m 1359 0 a = -2 ∧ x = 0)))
theorem lcx_lt {x y : Int} : lc x y < 0 ↔ x < y := by
  unfold lc
  split
  · omega
  · split <;> omega
theorem lcx_le {x y : Int} : lc x y ≤ 0 ↔ x ≤ y := by
  unfold lc
  split
  · omega
  · split <;> omega
section
variable {d : Nat} {m : AMem} {Q : Option AV → AMem → Prop}
theorem cc_refB {a : Int} (hI : InvS m) (h : ∀ x, RfB m a x → Q (some (vi x)) m) : MtX yX11_refusalOfBytes cX11_refusalOfBytes 2 (some .int) (d + 2) [vr 11 0, vi a] m Q := by
  refine Y_met rfl 0 rfl (sg_X11_refusalOfBytes_0 _ _ _ (cc_noSuchShelf fun x hx => ⟨x, rfl, fun c => ⟨by omega, ?_⟩, fun c => ⟨trivial, h _ (by unfold RfB; omega)⟩⟩))
  have hs := invS_at hI (a := a) (by omega)
  refine cc_isEmpty fun y hy => ⟨y, rfl, fun c2 => ⟨by omega, ?_⟩, fun c2 => ⟨trivial, h _ (by unfold RfB; omega)⟩⟩
  refine Y_met rfl 0 rfl (sg_X10_holdsBytes_0 _ _ _ ?_)
  have big : ∀ x : Int, (x = 1 ∧ m 1359 0 a = -2 ∨ x = 0 ∧ m 1359 0 a ≠ -2) → ((x = 0 ∨ x = 1) ∧ ∃ x11 : Int, some (vi x) = some (vi x11) ∧ ((x11 = 0 → rk (some .int) (some (vi (-12))) ∧ Q (some (vi (-12))) m) ∧ (¬ x11 = 0 → rk (some .int) (some (vi 0)) ∧ Q (some (vi 0)) m))) := fun x hx => ⟨by omega, x, rfl, fun c => ⟨trivial, h _ (by unfold RfB; omega)⟩, fun c => ⟨trivial, h _ (by unfold RfB; omega)⟩⟩
  exact ⟨fun c => big 0 (by omega), fun c => ⟨fun c2 => big 0 (by omega), fun c2 => big 1 (by omega)⟩⟩
theorem cm_rowF {a : Int} (ha : 0 ≤ a ∧ a ≤ 5) (h : ∀ x, RfB m a x → Q (some (vi x)) m) : MtX yX12_rowFault cX12_rowFault 2 (some .int) (d + 1) [vr 12 0, vi a] m Q :=
  Y_met rfl 0 rfl (sg_X12_rowFault_0 _ _ _ ⟨by omega, fun c => ⟨by omega, fun c2 => ⟨trivial, h _ (by unfold RfB; omega)⟩, fun c2 => ⟨trivial, h _ (by unfold RfB; omega)⟩⟩, fun c => ⟨trivial, h _ (by unfold RfB; omega)⟩⟩)
theorem cc_moveAt {j : Nat} {a i : Int} {m2 : AMem} (hI : InvS m) (ha : 0 ≤ a ∧ a ≤ 5) (hF : FrS wSc j m m2) (h0 : 0 ≤ i) (h1 : i < 60) (h : Q (some (vi (mvSh m a i))) m2) : MtX yX10_moveAt cX10_moveAt 2 (some .int) (d + 1) [vr 10 a.toNat, vi i] m2 Q := by
  have hs := invS_at hI ha
  have hc := (hs.2.2 i h0 h1).1
  refine Y_met rfl 0 rfl (sg_X10_moveAt_0 _ _ _ _ ?_)
  have e1 : m2 10 a.toNat 1 = m 1360 0 a := by rw [FrS_n hF (by decide) (by decide)]; exact hs.2.1.2.2
  have e2 : m2 1100 a.toNat i = m 1361 0 (60 * a + i) := by rw [FrS_n hF (by decide) (by decide)]; exact hc
  rw [e1, e2, lcx_lt, lcx_le]
  unfold mvSh at h
  refine ⟨fun c => by omega, fun _ => ⟨fun c => ?_, fun c => ⟨by omega, fun c2 => ?_, fun c2 => ⟨by omega, fun c3 => ⟨by omega, ?_⟩, fun c3 => ?_⟩⟩⟩⟩
  · rw [if_neg (by omega)] at h; exact ⟨trivial, h⟩
  · rw [if_neg (by omega)] at h; exact ⟨trivial, h⟩
  · rw [if_pos (by omega)] at h
    rw [w32i (by omega) (by omega)]
    exact ⟨trivial, h⟩
  · rw [if_neg (by omega)] at h; exact ⟨trivial, h⟩
theorem cm_at {a i : Int} (ha : 0 ≤ a ∧ a ≤ 5) (h0 : 0 ≤ i) (h1 : i < 60) (h : Q (some (vi (w32 (m 1361 0 (60 * a + i))))) m) : MtX yX12_at cX12_at 3 (some .int) (d + 1) [vr 12 0, vi a, vi i] m Q := by
  refine Y_met rfl 0 rfl (sg_X12_at_0 _ _ _ _ ?_)
  rw [w32i (z := 60 * a) (by omega) (by omega), w32i (z := 60 * a + i) (by omega) (by omega)]
  exact ⟨by omega, trivial, h⟩
theorem cm_moveAt {W : List Nat} {a i : Int} {m2 : AMem} (hI : InvS m) (ha : 0 ≤ a ∧ a ≤ 5) (hb : m 1359 0 a = -2) (hF : FrM W m m2) (hW : 1360 ∉ W ∧ 1361 ∉ W) (h0 : 0 ≤ i) (h1 : i < 60) (h : Q (some (vi (mvSh m a i))) m2) : MtX yX12_moveAt cX12_moveAt 3 (some .int) (d + 2) [vr 12 0, vi a, vi i] m2 Q := by
  have hs := invS_at hI ha
  have hc := hs.2.2 i h0 h1
  have hc2 := hc.2 hb
  have e1 : m2 1360 0 a = m 1360 0 a := FrM_n hF (by decide) hW.1
  have e2 : m2 1361 0 (60 * a + i) = m 1361 0 (60 * a + i) := FrM_n hF (by decide) hW.2
  have e3 : w32 (m 1361 0 (60 * a + i)) = m 1361 0 (60 * a + i) := w32i (by omega) (by omega)
  refine Y_met rfl 0 rfl (sg_X12_moveAt_0 _ _ _ _ ⟨by omega, ?_⟩)
  rw [e1]
  unfold mvSh at h
  refine ⟨fun c => ?_, fun c => cm_at ha h0 h1 ⟨_, rfl, ?_⟩⟩
  · rw [if_neg (by omega)] at h; exact ⟨trivial, h⟩
  · rw [e2, e3]
    refine cm_in fun x hx => ⟨x, rfl, fun c2 => ?_, fun c2 => cm_at ha h0 h1 ⟨_, rfl, ?_⟩⟩
    · rw [if_neg (by omega)] at h; exact ⟨trivial, h⟩
    · rw [e2, e3]
      rw [if_pos (by omega)] at h; exact ⟨trivial, h⟩
end
def ptS (s : StR) : Int := if s 26 = 1 then popB (s 24) else 0
def pcS (p : StR) : Int := if popB (p 11) ≤ 3 then 2 else 1
def thS (p s : StR) : Int := if s 26 = 1 then (if s 24 = 0 ∧ s 23 < p 15 then 1 else 0) else pcS p
def finS (p : StR) (L : Option LnL) (mv : Int → Int) : StR := losS (runF p L mv (p 14).toNat (iniS p))
theorem fin_ok {p : StR} {L : Option LnL} {mv : Int → Int} (hp : OkPa p) (hi : OkIn p) : OkSt p (finS p L mv) := by
  have h14 := hi.2.2.1
  have := runF_ok (L := L) (mv := mv) hp (p 14).toNat (iniS p) (okS_ini hp hi) (by rw [ini_o (by decide)]; decide) (by rw [ini_o (by decide)]; omega)
  exact okS_los hp.1.2 this.1
theorem fin_22 {p : StR} {L : Option LnL} {mv : Int → Int} (hp : OkPa p) (hi : OkIn p) : 0 ≤ finS p L mv 22 ∧ finS p L mv 22 ≤ 60 := by
  have h14 := hi.2.2.1
  have := runF_ok (L := L) (mv := mv) hp (p 14).toNat (iniS p) (okS_ini hp hi) (by rw [ini_o (by decide)]; decide) (by rw [ini_o (by decide)]; omega)
  have e := ini_o (p := p) (k := 22) (by decide)
  unfold finS
  rw [losS_k (by decide)]
  omega
theorem fin_M {p : StR} {L : Option LnL} {mv : Int → Int} (hp : OkPa p) (hi : OkIn p) : rnM p L mv 60 (iniS p) = finS p L mv := by
  have h14 := hi.2.2.1
  exact rnM_all hp 60 (p 14).toNat (iniS p) (by rw [ini_o (by decide)]; omega) (fun z => by omega) (by omega)
section
variable {d : Nat} {p s : StR} {L : Option LnL} {m : AMem} {Q : Option AV → AMem → Prop}
theorem cc_pts {j : Nat} (hR : RepC m j p s) (hs : OkSt p s) (h : Q (some (vi (ptS s))) m) : MtX yX7_points cX7_points 1 (some .int) (d + 2) [vr 7 j] m Q := by
  refine Y_met rfl 0 rfl (sg_X7_points_0 _ _ _ ?_)
  rw [hR.2.2.2.2.2.2.2.2.2, hR.2.2.2.2.2.2.1]
  unfold ptS at h
  refine ⟨fun c => ⟨trivial, by rw [if_neg c] at h; exact h⟩, fun c => ?_⟩
  rw [if_pos c] at h
  exact cc_bitCount hs.2.2.2.1.1 hs.2.2.2.1.2 ⟨_, rfl, trivial, h⟩
theorem cc_pcatch (h1 : 0 ≤ m 2 0 4 ∧ m 2 0 4 < 128) (h : Q (some (vi (if popB (m 2 0 4) ≤ 3 then 2 else 1))) m) : MtX yX2_pointsForCatch cX2_pointsForCatch 1 (some .int) (d + 2) [vr 2 0] m Q := by
  refine Y_met rfl 0 rfl (sg_X2_pointsForCatch_0 _ _ (cc_bitCount h1.1 h1.2 ⟨_, rfl, fun c => ?_, fun c => ?_⟩))
  · rw [if_neg (by omega)] at h; exact ⟨trivial, h⟩
  · rw [if_pos (by omega)] at h; exact ⟨trivial, h⟩
theorem cc_ths {j : Nat} (hp : OkPa p) (hH : HalfC m p L) (h11 : m 2 0 4 = p 11) (hR : RepC m j p s) (h : Q (some (vi (thS p s))) m) : MtX yX7_pointsForThem cX7_pointsForThem 2 (some .int) (d + 3) [vr 7 j, vr 2 0] m Q := by
  refine Y_met rfl 0 rfl (sg_X7_pointsForThem_0 _ _ _ ?_)
  rw [hR.2.2.2.2.2.2.2.2.2, hR.2.2.2.2.2.2.1, hH.2.2.2.1, hR.2.2.2.2.2.1]
  unfold thS at h
  refine ⟨fun c => ?_, fun c => ?_⟩
  · rw [if_neg c] at h
    exact cc_pcatch (by rw [h11]; exact hp.2.2) ⟨_, rfl, trivial, by rw [h11]; exact h⟩
  · rw [if_pos c] at h
    refine ⟨fun c2 => ?_, fun c2 => ⟨by decide, fun c3 => ?_, fun c3 => ?_⟩⟩
    · rw [if_neg (by omega)] at h; exact ⟨trivial, h⟩
    · rw [if_neg (by omega)] at h; exact ⟨trivial, h⟩
    · rw [if_pos (by omega)] at h; exact ⟨trivial, h⟩
theorem cm_pts (hR : RepM m p s) (hs : OkSt p s) (h : Q (some (vi (ptS s))) m) : MtX yX12_pointsNow cX12_pointsNow 1 (some .int) (d + 2) [vr 12 0] m Q := by
  refine Y_met rfl 0 rfl (sg_X12_pointsNow_0 _ _ ?_)
  rw [hR.2.2.2.2.1, hR.2.2.2.2.2.1]
  unfold ptS at h
  refine ⟨fun c => ⟨trivial, by rw [if_neg c] at h; exact h⟩, fun c => ?_⟩
  rw [if_pos c] at h
  exact cm_bitsOf hs.2.2.2.1.1 hs.2.2.2.1.2 ⟨_, rfl, trivial, h⟩
theorem cm_ths (hp : OkPa p) (hH : HalfM m p L) (hR : RepM m p s) (h : Q (some (vi (thS p s))) m) : MtX yX12_theirsNow cX12_theirsNow 1 (some .int) (d + 2) [vr 12 0] m Q := by
  refine Y_met rfl 0 rfl (sg_X12_theirsNow_0 _ _ ?_)
  rw [hR.2.2.2.2.1, hR.2.2.2.2.2.1, hH.2.2.1.2.2.2, hR.2.2.2.2.2.2.1, hR.2.1]
  unfold thS at h
  refine ⟨fun c => ?_, fun c => ?_⟩
  · rw [if_neg c] at h
    unfold pcS at h
    refine cm_bitsOf hp.2.2.1 hp.2.2.2 ⟨_, rfl, fun c2 => ?_, fun c2 => ?_⟩
    · rw [if_neg (by omega)] at h; exact ⟨trivial, h⟩
    · rw [if_pos (by omega)] at h; exact ⟨trivial, h⟩
  · rw [if_pos c] at h
    refine ⟨fun c2 => ?_, fun c2 => ⟨by decide, fun c3 => ?_, fun c3 => ?_⟩⟩
    · rw [if_neg (by omega)] at h; exact ⟨trivial, h⟩
    · rw [if_neg (by omega)] at h; exact ⟨trivial, h⟩
    · rw [if_pos (by omega)] at h; exact ⟨trivial, h⟩
/-- a raid of the class, the shelf's moves -/
theorem cc_raidS {a : Int} {m0 : AMem} (hp : OkPa p) (hbr : 0 ≤ p 14 ∧ p 14 ≤ 60) (hs : OkSt p s) (h22 : s 22 = 0) (hI : InvS m0) (ha : 0 ≤ a ∧ a ≤ 5) (hH : HalfC m p L) (hF : FrS wSc 0 m0 m) (hR : RepC m 0 p s) (h : ∀ m2, FrS wSc 0 m0 m2 → RepC m2 0 p (losS (runF p L (mvSh m0 a) (p 14).toNat s)) → Q none m2) : MtX yX7_play cX7_play 4 none (d + 6) [vr 7 0, vr 2 0, vr 10 a.toNat] m Q :=
  cc_play hp hbr hs h22 hH hR (fun d2 i m2 Q2 hF2 g0 g1 hq => cc_moveAt hI ha (FrS_trans hF hF2) g0 g1 hq) fun m2 hF2 hR2 => h m2 (FrS_trans hF hF2) hR2
theorem cc_think {a : Int} (hp : OkPa p) (hi : OkIn p) (hI : InvS m) (ha : 0 ≤ a ∧ a ≤ 5) (hH : HalfC m p L) (hB : BasC m p) (h : ∀ m2, FrS wSc 0 m m2 → RepC m2 0 p (finS p L (mvSh m a)) → Q none m2) : MtX yX11_thinkThrough cX11_thinkThrough 2 none (d + 7) [vr 11 0, vi a] m Q := by
  have h14 := hi.2.2.1
  refine Y_met rfl 0 rfl (sg_X11_thinkThrough_0 _ _ _ (cc_begin hp hB fun m1 hF1 hR1 => ⟨rfl, by omega, ?_⟩))
  have hF1 : FrS wSc 0 m m1 := FrS_mono hF1 (by decide)
  exact cc_raidS hp (by omega) (okS_ini hp hi) (ini_o (by decide)) hI ha (HalfC_S hF1 hH) hF1 hR1 fun m2 hF2 hR2 => ⟨rfl, trivial, h m2 hF2 hR2⟩
/-- a raid of the reference, the shelf's moves -/
theorem cm_raidS {a : Int} {most : Nat} {m0 : AMem} {W : List Nat} (hp : OkPa p) (hi : OkIn p) (hmo : most ≤ 60) (hI : InvS m0) (ha : 0 ≤ a ∧ a ≤ 5) (hb : m0 1359 0 a = -2) (hF : FrM W m0 m) (hW : 1360 ∉ W ∧ 1361 ∉ W) (hH : HalfM m p L) (hB : BasM m p) (h : ∀ m2, FrM (5036 :: wMo) m m2 → RepM m2 p (rnM p L (mvSh m0 a) most (iniS p)) → m2 12 0 31 = rnM p L (mvSh m0 a) most (iniS p) 22 → Q none m2) : MtX yX12_goRaid cX12_goRaid 3 none (d + 7) [vr 12 0, vi a, vi most] m Q := by
  refine cm_goRaid hp hi hmo hH hB (fun d2 i m2 Q2 hF2 g0 g1 hq => ?_) h
  have hF3 : FrM (W ++ (5036 :: wMo)) m0 m2 := FrM_trans (FrM_mono hF fun c hc => List.mem_append_left _ hc) (FrM_mono hF2 fun c hc => List.mem_append_right _ hc)
  refine cm_moveAt hI ha hb hF3 ⟨fun q => ?_, fun q => ?_⟩ g0 g1 hq
  · rcases List.mem_append.mp q with q | q
    · exact hW.1 q
    · revert q; decide
  · rcases List.mem_append.mp q with q | q
    · exact hW.2 q
    · revert q; decide
end
def wRd : List Nat := [7, 800, 801, 802, 402, 5036, 5029, 5030, 5031, 5032, 5033, 5034, 5035, 1327, 1328, 1324, 1325]
section
variable {d : Nat} {L : Option LnL} {m : AMem} {Q : Option AV → AMem → Prop}
set_option maxHeartbeats 1000000 in
theorem pr_raid {a b : Int} (hI : InvS m) (hH : InvH m) (hL : LawC m L) (hM : LawM m L)
    (hQ : ∀ x m1, MtX yX12_raid cX12_raid 3 (some .int) (d + 9) [vr 12 0, vi a, vi b] m1 (fun r m2 => r = some (vi x) ∧ FrM wRd m m2) → Q (some (vi x)) m1) : MtX yX11_raid cX11_raid 4 (some .int) (d + 9) [vr 11 0, vi a, vi b] m Q := by
  have hp := pOf_ok hH
  have hi := pOf_in hH
  have hm1 : ¬ (0 ≤ b ∧ b ≤ 6) → Q (some (vi (-1))) m := fun c => hQ _ _ (Y_met rfl 0 rfl (sg_X12_raid_0 _ _ _ _ (cm_isShelf fun x hx => ⟨x, rfl, fun c2 => ⟨trivial, rfl, FrM_refl _ _⟩, fun c2 => cm_in fun y hy => ⟨y, rfl, fun c3 => by omega, fun c3 => ⟨trivial, rfl, FrM_refl _ _⟩⟩⟩)))
  refine Y_met rfl 1 rfl (sg_X11_raid_0 _ _ _ _ ⟨fun c => ⟨trivial, hm1 (by omega)⟩, fun c => ⟨fun c2 => ?_, fun c2 => ⟨trivial, hm1 (by omega)⟩⟩⟩)
  refine cc_refB hI fun x hx => ⟨x, rfl, fun c3 => ?_, fun c3 => ⟨trivial, hQ _ _ ?_⟩⟩
  · unfold RfB at hx
    have ha : 0 ≤ a ∧ a ≤ 5 := by omega
    have hb : m 1359 0 a = -2 := by omega
    refine cc_think (p := pOf m) hp hi hI ha (pOf_hc hH hL) (pOf_bc hH) fun m1 hF1 hR1 => ⟨rfl, ?_⟩
    have hHC1 := HalfC_S hF1 (pOf_hc hH hL)
    have h11 : m1 2 0 4 = pOf m 11 := by rw [FrS_n hF1 (by decide) (by decide)]; rfl
    have hok := fin_ok (L := L) (mv := mvSh m a) hp hi
    have fin : ∀ x, (x = if b = 0 then finS (pOf m) L (mvSh m a) 26 else if b = 1 then finS (pOf m) L (mvSh m a) 22 else if b = 2 then ptS (finS (pOf m) L (mvSh m a)) else if b = 3 then thS (pOf m) (finS (pOf m) L (mvSh m a)) else if b = 4 then finS (pOf m) L (mvSh m a) 24 else if b = 5 then finS (pOf m) L (mvSh m a) 23 else finS (pOf m) L (mvSh m a) 25) → Q (some (vi x)) m1 := by
      intro x hx2
      refine hQ _ _ (Y_met rfl 0 rfl (sg_X12_raid_0 _ _ _ _ (cm_isShelf fun x hx => ⟨x, rfl, fun c2 => by omega, fun c2 => cm_in fun y hy => ⟨y, rfl, fun c3 => ?_, fun c3 => by omega⟩⟩)))
      have hb1 : m1 1359 0 a = -2 := by rw [FrS_n hF1 (by decide) (by decide)]; exact hb
      refine cm_rowF ha fun w hw => ⟨w, rfl, fun c4 => ?_, fun c4 => by unfold RfB at hw; omega⟩
      have hHM1 : HalfM m1 (pOf m) L := HalfM_fr (FrS_M hF1) (by decide) (pOf_hm hH hM)
      refine cm_raidS (most := 60) hp hi (by decide) hI ha hb (FrS_M hF1) (by decide) hHM1 (BasM_fr (FrS_M hF1) (by decide) (pOf_bm hH)) fun m2 hF2 hR2 h31 => ⟨rfl, ?_⟩
      rw [fin_M hp hi] at hR2 h31
      have hFF : FrM wRd m m2 := FrM_trans (FrM_mono (FrS_M hF1) (by decide)) (FrM_mono hF2 (by decide))
      have hHM2 : HalfM m2 (pOf m) L := HalfM_fr hF2 (by decide) hHM1
      rw [hR2.2.2.2.2.1, h31, hR2.2.2.2.2.2.1, hR2.2.2.2.2.2.2.1, hR2.2.2.2.2.2.2.2]
      subst hx2
      refine ⟨fun e => ?_, fun e => ?_, fun e => ?_, fun e => ?_, fun e => ?_, fun e => ?_, fun e => ?_⟩
      · subst e; exact ⟨trivial, rfl, hFF⟩
      · subst e; exact ⟨trivial, rfl, hFF⟩
      · subst e; exact cm_pts hR2 hok ⟨_, rfl, trivial, rfl, hFF⟩
      · subst e; exact cm_ths hp hHM2 hR2 ⟨_, rfl, trivial, rfl, hFF⟩
      · subst e; exact ⟨trivial, rfl, hFF⟩
      · subst e; exact ⟨trivial, rfl, hFF⟩
      · have e6 : b = 6 := by omega
        subst e6; exact ⟨trivial, rfl, hFF⟩
    rw [hR1.2.2.2.2.2.2.2.2.2, hR1.2.2.2.2.1, hR1.2.2.2.2.2.2.1, hR1.2.2.2.2.2.1, hR1.2.2.2.2.2.2.2.1]
    refine ⟨fun e => ⟨trivial, fin _ (by subst e; rfl)⟩, fun e => ⟨trivial, fin _ (by subst e; rfl)⟩, fun e => ?_, fun e => ?_, fun e => ⟨trivial, fin _ (by subst e; rfl)⟩, fun e => ⟨trivial, fin _ (by subst e; rfl)⟩, fun e => ⟨trivial, fin _ ?_⟩⟩
    · exact cc_pts hR1 hok ⟨_, rfl, trivial, fin _ (by subst e; rfl)⟩
    · exact cc_ths hp hHC1 h11 hR1 ⟨_, rfl, trivial, fin _ (by subst e; rfl)⟩
    · have e6 : b = 6 := by omega
      subst e6; rfl
  · refine Y_met rfl 0 rfl (sg_X12_raid_0 _ _ _ _ (cm_isShelf fun z hz => ⟨z, rfl, fun c4 => ?_, fun c4 => cm_in fun y hy => ⟨y, rfl, fun c5 => ?_, fun c5 => by omega⟩⟩))
    · have : x = -1 := by unfold RfB at hx; omega
      exact ⟨trivial, by rw [this], FrM_refl _ _⟩
    · refine cm_rowF (by omega) fun w hw => ⟨w, rfl, fun c4 => by unfold RfB at hx hw; omega, fun c4 => cm_rowF (by omega) fun w2 hw2 => ⟨w2, rfl, trivial, ?_, FrM_refl _ _⟩⟩
      have : w2 = x := by unfold RfB at hx hw2; omega
      rw [this]
end
