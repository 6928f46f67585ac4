/-! raids with one number changed -/
def pEq (q p : StR) : Prop := q 10 = p 10 ∧ q 11 = p 11 ∧ q 12 = p 12 ∧ q 15 = p 15 ∧ ∀ i : Int, 0 ≤ i → i < 7 → q i = p i
theorem HalfC_cg {m : AMem} {p q : StR} {L : Option LnL} (hn : p 10 ≤ 7) (h10 : q 10 = p 10) (h12 : q 12 = p 12) (h15 : q 15 = p 15) (hi : ∀ i : Int, 0 ≤ i → i < 7 → q i = p i) (h : HalfC m p L) : HalfC m q L := by
  obtain ⟨a1, a2, a3, a4, a5⟩ := h
  refine ⟨by rw [h10]; exact a1, fun i g0 g1 => ?_, by rw [h12]; exact a3, by rw [h15]; exact a4, a5⟩
  rw [h10] at g1
  rw [hi i g0 (by omega)]
  exact a2 i g0 g1
theorem RepC_cg {m : AMem} {j : Nat} {p q s : StR} (h10 : q 10 = p 10) (h11 : q 11 = p 11) (h13 : q 13 = p 13) (h14 : q 14 = p 14) (h : RepC m j p s) : RepC m j q s := by
  unfold RepC at h ⊢
  rw [h10, h11, h13, h14]
  exact h
theorem RepC_14 {m : AMem} {j : Nat} {p s : StR} {v : Int} (h : RepC m j p s) : RepC (upM m 7 j 6 v) j (upS p 14 v) s := by
  obtain ⟨a1, a2, a3⟩ := h
  refine ⟨a1, ?_, ?_⟩
  · simp [upM, upS, a2]
  · simp [upM, a3]
theorem RepC_13 {m : AMem} {j : Nat} {p s : StR} {v : Int} (h : RepC m j p s) : RepC (upM m 7 j 7 v) j (upS p 13 v) s := by
  obtain ⟨a1, a2, a3⟩ := h
  refine ⟨a1, ?_, ?_⟩
  · simp [upM, upS, a2]
  · simp [upM, a3]
theorem RepC_11 {m : AMem} {j : Nat} {p s : StR} {v : Int} (h : RepC m j p s) : RepC (upM m 7 j 3 v) j (upS p 11 v) s := by
  obtain ⟨a1, a2, a3⟩ := h
  refine ⟨a1, ?_, ?_⟩
  · simp [upM, upS, a2]
  · simp [upM, a3]
theorem nrS_cg {p q s : StR} {i : Int} (h11 : q 11 = p 11) : ∀ {n : Nat}, nrS q s i n = nrS p s i n := by
  intro n
  induction n with
  | zero => rfl
  | succ n ih => rw [nrS_s, nrS_s, ih, h11]
theorem faS_cg {p q s : StR} {i b : Int} (hq : pEq q p) (h0 : 0 ≤ i) (h1 : i < 7) : faS q s i b = faS p s i b := by
  obtain ⟨a1, a2, a3, a4, a5⟩ := hq
  funext k
  unfold faS
  rw [a5 i h0 h1, a2, a1, nrS_cg a2]
theorem acS_cg {p q s : StR} {L : Option LnL} {i b : Int} (hq : pEq q p) (h0 : 0 ≤ i) (h1 : i < 7) : acS q L b s i = acS p L b s i := by
  unfold acS
  rw [faS_cg hq h0 h1, hq.2.1, hq.2.2.2.2 i h0 h1]
theorem alS_cg {p q s : StR} {L : Option LnL} {b : Int} (hq : pEq q p) : ∀ {n : Nat}, n ≤ 7 → alS q L b s n = alS p L b s n := by
  intro n
  induction n with
  | zero => intro _; rfl
  | succ n ih =>
    intro hn
    show acS q L b (alS q L b s n) n = acS p L b (alS p L b s n) n
    rw [ih (by omega), acS_cg hq (by omega) (by omega)]
theorem toS_cg {p q s : StR} (hq : pEq q p) : ∀ {n : Nat}, toS q s n = toS p s n := by
  intro n
  induction n with
  | zero => rfl
  | succ n ih => rw [toS_s, toS_s, ih, hq.2.1, hq.2.2.1]
theorem s2S_cg {p q s : StR} {v : Int} (hq : pEq q p) : s2S q s v = s2S p s v := by
  unfold s2S
  simp only [hq.1, toS_cg hq]
theorem s3S_cg {p q s : StR} {L : Option LnL} {v : Int} (hp : OkPa p) (hq : pEq q p) : s3S q L s v = s3S p L s v := by
  unfold s3S
  rw [hq.1, s2S_cg hq, alS_cg hq (N_le hp).1]
theorem secS_cg {p q s : StR} {L : Option LnL} {v : Int} (hp : OkPa p) (hq : pEq q p) (h13 : q 13 = p 13) : secS q L s v = secS p L s v := by
  unfold secS
  rw [s3S_cg hp hq, h13]
theorem runF_cg {p q : StR} {L : Option LnL} {mv : Int → Int} (hp : OkPa p) (hq : pEq q p) (h13 : q 13 = p 13) : ∀ {k : Nat} {s : StR}, runF q L mv k s = runF p L mv k s := by
  intro k
  induction k with
  | zero => intro s; rfl
  | succ k ih => intro s; rw [runF_s, runF_s, secS_cg hp hq h13, ih]
theorem pEq_u {p : StR} {x v : Int} (h : x = 13 ∨ x = 14 ∨ 16 ≤ x) : pEq (upS p x v) p :=
  ⟨upS_n (by omega), upS_n (by omega), upS_n (by omega), upS_n (by omega), fun i h0 h1 => upS_n (by omega)⟩
theorem OkPa_u {p : StR} {x v : Int} (h : x = 13 ∨ x = 14 ∨ 16 ≤ x) (hp : OkPa p) : OkPa (upS p x v) := by
  obtain ⟨a1, a2, a3, a4, a5⟩ := pEq_u (p := p) (v := v) h
  unfold OkPa
  rw [a1, a2]
  refine ⟨hp.1, fun i g0 g1 => ?_, hp.2.2⟩
  have := hp.1
  rw [a5 i g0 (by omega)]
  exact hp.2.1 i g0 g1
theorem ini_u {p : StR} {x v : Int} (h : x < 16) : iniS (upS p x v) = iniS p := by
  funext k
  unfold iniS
  split
  · exact upS_n (by omega)
  · split
    · exact upS_n (by omega)
    · split
      · exact upS_n (by omega)
      · rfl
theorem OkIn_u {p : StR} {x v : Int} (h : x = 13 ∨ (x = 14 ∧ 1 ≤ v ∧ v ≤ 60)) (hp : OkPa p) (hi : OkIn p) : OkIn (upS p x v) := by
  have hn := hp.1
  obtain ⟨a1, a2, a3, a4⟩ := hi
  refine ⟨fun i g0 g1 => ?_, ?_, ?_, fun i g0 g1 => ?_⟩
  · rw [upS_n (by omega)] at g1
    rw [upS_n (by omega), upS_n (by omega)]
    exact a1 i g0 g1
  · rw [upS_n (by omega)]; exact a2
  · rcases h with h | h
    · rw [upS_n (by omega)]; exact a3
    · rw [h.1, upS_s]; exact h.2
  · rw [upS_n (by omega)] at g0
    rw [upS_n (by omega)]
    exact a4 i g0 g1
theorem FrM_back {W : List Nat} {m m2 : AMem} {k j : Nat} {i v : Int} (h : FrM W (upM m k j i v) m2) : FrM W m (upM m2 k j i (m k j i)) := by
  intro k2 j2 i2 hc
  have := h k2 j2 i2 hc
  unfold upM at this ⊢
  by_cases e1 : k2 = k
  · by_cases e2 : j2 = j
    · by_cases e3 : i2 = i
      · subst e1; subst e2; subst e3; simp
      · simp [e1, e2, e3] at this ⊢; rw [← e1, ← e2]; rw [e1, e2]; exact this
    · simp [e1, e2] at this ⊢; exact this
  · simp [e1] at this ⊢; exact this
theorem FrM_ow {W : List Nat} {m m2 : AMem} {k j : Nat} {i v w : Int} (h : FrM W (upM m k j i v) m2) : FrM W (upM m k j i w) (upM m2 k j i w) := by
  intro k2 j2 i2 hc
  have := h k2 j2 i2 hc
  unfold upM at this ⊢
  by_cases e1 : k2 = k
  · by_cases e2 : j2 = j
    · by_cases e3 : i2 = i
      · simp [e1, e2, e3]
      · simp [e1, e2, e3] at this ⊢; exact this
    · simp [e1, e2] at this ⊢; exact this
  · simp [e1] at this ⊢; exact this
theorem up_id {m : AMem} {k j : Nat} {i v : Int} (h : m k j i = v) : upM m k j i v = m := by
  funext k2 j2 i2
  unfold upM
  split
  · split
    · split
      · rename_i e1 e2 e3; rw [e1, e2, e3, h]
      · rfl
    · rfl
  · rfl
theorem HalfM_told {m : AMem} {p : StR} {L : Option LnL} {i v : Int} (hn : p 10 ≤ 7) (hi : (i = 0 ∨ i = 2) ) (h : HalfM m p L) : HalfM (upM m 1306 0 i v) (upS p (if i = 0 then 14 else 13) v) L := by
  obtain ⟨a1, a2, a3, a4⟩ := h
  have a4' : LawM (upM m 1306 0 i v) L := LawM_fr (W := [1306]) (FrM_uk (FrM_refl _ _) (by decide) (by decide)) (by decide) a4
  rcases hi with rfl | rfl
  · refine ⟨a1, fun k g0 g1 => ?_, ?_, a4'⟩
    · simp [upS] at g1 ⊢
      rw [if_neg (by omega)]
      exact a2 k g0 g1
    · simp [upM, upS, a3]
  · refine ⟨a1, fun k g0 g1 => ?_, ?_, a4'⟩
    · simp [upS] at g1 ⊢
      rw [if_neg (by omega)]
      exact a2 k g0 g1
    · simp [upM, upS, a3]
theorem BasM_u {m : AMem} {p : StR} {x v : Int} (hn : p 10 ≤ 7) (hx : x = 13 ∨ x = 14) (h : BasM m p) : BasM m (upS p x v) := by
  obtain ⟨a1, a2⟩ := h
  refine ⟨fun i g0 g1 => ?_, ?_⟩
  · rw [upS_n (by omega)] at g1
    rw [upS_n (by omega), upS_n (by omega), upS_n (by omega)]
    exact a1 i g0 g1
  · rw [upS_n (by omega)]; exact a2
theorem BasM_told {m : AMem} {p : StR} {i v : Int} (hi : i ≠ 3) (h : BasM m p) : BasM (upM m 1306 0 i v) p := ⟨h.1, by rw [up_i (by omega)]; exact h.2⟩
section
variable {d : Nat} {L : Option LnL} {m : AMem} {Q : Option AV → AMem → Prop}
theorem cc_cell {j : Nat} {p s : StR} {w : Int} (hp : OkPa p) (hR : RepC m j p s) (hs : OkSt p s) (hw : -1 ≤ w ∧ w < p 10) (h : Q (some (vi (if w < 0 then 10 * s 21 + s 20 else 10 * s (10 + w) + s w))) m) : MtX yX7_cellOf cX7_cellOf 2 (some .int) (d + 1) [vr 7 j, vi w] m Q := by
  have hn := hp.1
  have h20 := hs.2.1
  have h21 := hs.2.2.1
  refine Y_met rfl 0 rfl (sg_X7_cellOf_0 _ _ _ _ ⟨fun c => ⟨by omega, by omega, trivial, ?_⟩, fun c => ⟨trivial, ?_⟩⟩)
  · have h1 := hR.1 w c hw.2
    have h2 := hs.1 w c hw.2
    rw [if_neg (by omega)] at h
    rw [h1.1, h1.2, w32i (z := 10 * s (10 + w)) (by omega) (by omega), w32i (by omega) (by omega)]
    exact h
  · rw [if_pos (by omega)] at h
    rw [hR.2.2.1, hR.2.2.2.1, w32i (z := 10 * s 21) (by omega) (by omega), w32i (by omega) (by omega)]
    exact h
set_option maxHeartbeats 1000000 in
theorem pr_where {a n w : Int} (hI : InvS m) (hH : InvH m) (hL : LawC m L) (hM : LawM m L)
    (hQ : ∀ x m1, MtX yX12_where cX12_where 4 (some .int) (d + 9) [vr 12 0, vi a, vi n, vi w] m1 (fun r m2 => r = some (vi x) ∧ FrM wRd m m2) → Q (some (vi x)) m1) : MtX yX11_where cX11_where 5 (some .int) (d + 9) [vr 11 0, vi a, vi n, vi w] m Q := by
  have hp := pOf_ok hH
  have hi := pOf_in hH
  have hn := hp.1
  have h14 := hi.2.2.1
  have hN : m 2 0 5 = m 12 0 1 ∧ 0 ≤ m 12 0 1 ∧ m 12 0 1 ≤ 7 := by have := hH.1; omega
  have e5 : w32 (m 12 0 1 - 1) = m 12 0 1 - 1 := w32i (by omega) (by omega)
  -- the reference's refusals
  have bad : ∀ x, (x = -1 ∧ (¬ (0 ≤ n ∧ n ≤ 60) ∨ ¬ (-1 ≤ w ∧ w < m 12 0 1))) ∨ ((0 ≤ n ∧ n ≤ 60) ∧ (-1 ≤ w ∧ w < m 12 0 1) ∧ RfB m a x ∧ x ≠ 0) → Q (some (vi x)) m := by
    intro x hx
    refine hQ _ _ (Y_met rfl 0 rfl (sg_X12_where_0 _ _ _ _ _ (cm_isShelf fun y hy => ⟨y, rfl, fun c => ?_, fun c => cm_in fun z hz => ⟨z, rfl, fun c2 => ?_, fun c2 => ?_⟩⟩)))
    · have : x = -1 := by unfold RfB at hx; omega
      exact ⟨trivial, by rw [this], FrM_refl _ _⟩
    · have : x = -1 := by omega
      exact ⟨trivial, by rw [this], FrM_refl _ _⟩
    · rw [e5]
      refine cm_in fun u hu => ⟨u, rfl, fun c3 => ?_, fun c3 => ?_⟩
      · refine cm_rowF (by omega) fun v hv => ⟨v, rfl, fun c4 => by unfold RfB at hx hv; omega, fun c4 => cm_rowF (by omega) fun v2 hv2 => ⟨v2, rfl, trivial, ?_, FrM_refl _ _⟩⟩
        have : v2 = x := by unfold RfB at hx hv2; omega
        rw [this]
      · have : x = -1 := by omega
        exact ⟨trivial, by rw [this], FrM_refl _ _⟩
  refine Y_met rfl 1 rfl (sg_X11_where_0 _ _ _ _ _ ⟨fun c => ⟨trivial, bad _ (Or.inl ⟨rfl, by omega⟩)⟩, fun c => ⟨fun c2 => ⟨trivial, bad _ (Or.inl ⟨rfl, by omega⟩)⟩, fun c2 => ⟨fun c3 => ⟨trivial, bad _ (Or.inl ⟨rfl, by omega⟩)⟩, fun c3 => ⟨fun c4 => ?_, fun c4 => ⟨trivial, bad _ (Or.inl ⟨rfl, by omega⟩)⟩⟩⟩⟩⟩)
  refine cc_refB hI fun x hx => ⟨x, rfl, fun c5 => ?_, fun c5 => ⟨trivial, bad x (Or.inr ⟨by omega, by omega, hx, c5⟩)⟩⟩
  unfold RfB at hx
  have ha : 0 ≤ a ∧ a ≤ 5 := by omega
  have hb : m 1359 0 a = -2 := by omega
  have hHC := pOf_hc hH hL
  refine cc_begin (p := pOf m) hp (pOf_bc hH) fun m1 hF1 hR1 => ⟨rfl, by omega, ?_⟩
  have hF1' : FrS wSc 0 m m1 := FrS_mono hF1 (by decide)
  rw [hR1.2.1.2.1]
  have hq := pEq_u (p := pOf m) (x := 14) (v := min (pOf m 14) n) (by decide)
  have hok1 : OkSt (upS (pOf m) 14 (min (pOf m 14) n)) (iniS (pOf m)) := by
    have := okS_ini hp hi
    unfold OkSt at this ⊢
    rw [hq.1]
    exact this
  refine cc_raidS (L := L) (p := upS (pOf m) 14 (min (pOf m 14) n)) (OkPa_u (by decide) hp) (by rw [upS_s]; omega) hok1 (ini_o (by decide)) hI ha (HalfC_cg hn.2 hq.1 hq.2.2.1 hq.2.2.2.1 hq.2.2.2.2 (HalfC_S (FrS_u hF1' (by decide) (by decide)) hHC)) (FrS_u hF1' (by decide) (by decide)) (RepC_14 hR1) fun m2 hF2 hR2 => ⟨rfl, ?_⟩
  rw [upS_s, runF_cg hp hq (upS_n (by decide))] at hR2
  have hR2 := RepC_cg (q := upS (pOf m) 14 (m2 7 0 6)) (p := upS (pOf m) 14 (min (pOf m 14) n)) rfl rfl rfl (by rw [upS_s]; exact hR2.2.1.2.1) hR2
  have hR2 : RepC m2 0 (upS (pOf m) 14 (m2 7 0 6)) (losS (runF (pOf m) L (mvSh m a) (min (pOf m 14) n).toNat (iniS (pOf m)))) := hR2
  have hrun := runF_ok (L := L) (mv := mvSh m a) hp (min (pOf m 14) n).toNat (iniS (pOf m)) (okS_ini hp hi) (by rw [ini_o (by decide)]; decide) (by rw [ini_o (by decide)]; omega)
  have hq2 := pEq_u (p := pOf m) (x := 14) (v := m2 7 0 6) (by decide)
  have hok2 : OkSt (upS (pOf m) 14 (m2 7 0 6)) (losS (runF (pOf m) L (mvSh m a) (min (pOf m 14) n).toNat (iniS (pOf m)))) := by
    have := okS_los hn.2 hrun.1
    unfold OkSt at this ⊢
    rw [hq2.1]
    exact this
  have hw : -1 ≤ w ∧ w < pOf m 10 := by rw [pOf_10]; omega
  refine cc_cell (OkPa_u (by decide) hp) hR2 hok2 (by rw [hq2.1]; exact hw) ⟨_, rfl, trivial, ?_⟩
  -- the reference
  refine hQ _ _ (Y_met rfl 0 rfl (sg_X12_where_0 _ _ _ _ _ (cm_isShelf fun y hy => ⟨y, rfl, fun c => by omega, fun c => cm_in fun z hz => ⟨z, rfl, fun c2 => by omega, fun c2 => ?_⟩⟩)))
  have hN2 : m2 12 0 1 = m 12 0 1 := FrS_M hF2 12 0 1 (by decide)
  have hb2 : m2 1359 0 a = -2 := by rw [FrS_n hF2 (by decide) (by decide)]; exact hb
  rw [hN2, e5]
  refine cm_in fun u hu => ⟨u, rfl, fun c3 => ?_, fun c3 => by omega⟩
  refine cm_rowF ha fun v hv => ⟨v, rfl, fun c6 => ?_, fun c6 => by unfold RfB at hv; omega⟩
  have hHM2 : HalfM m2 (pOf m) L := HalfM_fr (FrS_M hF2) (by decide) (pOf_hm hH hM)
  have en : n = ((n.toNat : Nat) : Int) := by omega
  have hgo := fun (Q3 : Option AV → AMem → Prop) => cm_raidS (d := d + 1) (Q := Q3) (most := n.toNat) hp hi (by omega) hI ha hb (FrS_M hF2) (by decide) hHM2 (BasM_fr (FrS_M hF2) (by decide) (pOf_bm hH))
  rw [← en] at hgo
  refine hgo _ fun m3 hF3 hR3 h31 => ⟨rfl, ?_⟩
  have hFF : FrM wRd m m3 := FrM_trans (FrM_mono (FrS_M hF2) (by decide)) (FrM_mono hF3 (by decide))
  -- the same places
  have same : ∀ k : Int, k ≠ 26 → rnM (pOf m) L (mvSh m a) n.toNat (iniS (pOf m)) k = losS (runF (pOf m) L (mvSh m a) (min (pOf m 14) n).toNat (iniS (pOf m))) k := by
    intro k hk
    by_cases hc : pOf m 14 ≤ n
    · rw [rnM_all hp n.toNat (pOf m 14).toNat (iniS (pOf m)) (by rw [ini_o (by decide)]; omega) (fun z => by omega) (by omega), Int.min_eq_left hc]
    · rw [rnM_few hp n.toNat (iniS (pOf m)) (by rw [ini_o (by decide)]; omega), Int.min_eq_right (by omega), losS_k hk]
  generalize losS (runF (pOf m) L (mvSh m a) (min (pOf m 14) n).toNat (iniS (pOf m))) = S at *
  have hok3 := okS_los hn.2 hrun.1
  have h20 := hok2.2.1
  have h21 := hok2.2.2.1
  refine ⟨fun c7 => ⟨by omega, by omega, trivial, ?_, hFF⟩, fun c7 => ⟨trivial, ?_, hFF⟩⟩
  · have g1 := hR3.1 w c7 hw.2
    have g2 := hok2.1 w c7 (by rw [hq2.1]; exact hw.2)
    rw [g1.1, g1.2, same w (by omega), same (10 + w) (by omega), if_neg (by omega), w32i (z := 10 * S (10 + w)) (by omega) (by omega), w32i (by omega) (by omega)]
  · rw [hR3.2.2.1, hR3.2.2.2.1, same 20 (by decide), same 21 (by decide), if_pos (by omega), w32i (z := 10 * S 21) (by omega) (by omega), w32i (by omega) (by omega)]
set_option maxHeartbeats 1000000 in
theorem pr_needs {a : Int} (hI : InvS m) (hH : InvH m) (hL : LawC m L) (hM : LawM m L)
    (hQ : ∀ x m1, MtX yX12_needs cX12_needs 3 (some .int) (d + 9) [vr 12 0, vi a] m1 (fun r m2 => r = some (vi x) ∧ FrM wRd m m2) → Q (some (vi x)) m1) : MtX yX11_needs cX11_needs 3 (some .int) (d + 9) [vr 11 0, vi a] m Q := by
  have hp := pOf_ok hH
  have hi := pOf_in hH
  have hn := hp.1
  refine Y_met rfl 1 rfl (sg_X11_needs_0 _ _ _ (cc_refB hI fun x hx => ⟨x, rfl, fun c => ?_, fun c => ⟨trivial, hQ _ _ ?_⟩⟩))
  · unfold RfB at hx
    have ha : 0 ≤ a ∧ a ≤ 5 := by omega
    have hb : m 1359 0 a = -2 := by omega
    have hHC := pOf_hc hH hL
    refine cc_begin (p := pOf m) hp (pOf_bc hH) fun m1 hF1 hR1 => ⟨rfl, by omega, ?_⟩
    have hF1' : FrS wSc 0 m m1 := FrS_mono hF1 (by decide)
    have hq := pEq_u (p := pOf m) (x := 14) (v := 60) (by decide)
    have hp2 : OkPa (upS (pOf m) 14 60) := OkPa_u (by decide) hp
    have hi2 : OkIn (upS (pOf m) 14 60) := OkIn_u (by decide) hp hi
    have hok1 := okS_ini hp2 hi2
    have hini : iniS (upS (pOf m) 14 60) = iniS (pOf m) := ini_u (by decide)
    refine cc_raidS (L := L) (p := upS (pOf m) 14 60) hp2 (by rw [upS_s]; decide) (by rw [← hini]; exact hok1) (ini_o (by decide)) hI ha (HalfC_cg hn.2 hq.1 hq.2.2.1 hq.2.2.2.1 hq.2.2.2.2 (HalfC_S (FrS_u hF1' (by decide) (by decide)) hHC)) (FrS_u hF1' (by decide) (by decide)) (RepC_14 hR1) fun m2 hF2 hR2 => ⟨rfl, ?_⟩
    rw [← hini] at hR2
    have hR2 : RepC m2 0 (upS (pOf m) 14 60) (finS (upS (pOf m) 14 60) L (mvSh m a)) := hR2
    have fin : ∀ x, (x = if finS (upS (pOf m) 14 60) L (mvSh m a) 26 = 1 then finS (upS (pOf m) 14 60) L (mvSh m a) 22 else -2) → Q (some (vi x)) m2 := by
      intro x hx2
      refine hQ _ _ (Y_met rfl 1 rfl (sg_X12_needs_0 _ _ _ (cm_isShelf fun y hy => ⟨y, rfl, fun c2 => ?_, fun c2 => by omega⟩)))
      have hb2 : m2 1359 0 a = -2 := by rw [FrS_n hF2 (by decide) (by decide)]; exact hb
      refine cm_rowF ha fun v hv => ⟨v, rfl, fun c3 => ⟨by decide, by decide, ?_⟩, fun c3 => by unfold RfB at hv; omega⟩
      have hHM2 : HalfM m2 (pOf m) L := HalfM_fr (FrS_M hF2) (by decide) (pOf_hm hH hM)
      have hHM3 : HalfM (upM m2 1306 0 0 60) (upS (pOf m) 14 60) L := HalfM_told (i := 0) hn.2 (by decide) hHM2
      have hBM3 : BasM (upM m2 1306 0 0 60) (upS (pOf m) 14 60) := BasM_u hn.2 (by decide) (BasM_told (by decide) (BasM_fr (FrS_M hF2) (by decide) (pOf_bm hH)))
      have hF3 : FrM (1306 :: wSc) m (upM m2 1306 0 0 60) := FrM_uk (FrM_mono (FrS_M hF2) (by decide)) (by decide) (by decide)
      refine cm_raidS (most := 60) hp2 hi2 (by decide) hI ha hb hF3 (by decide) hHM3 hBM3 fun m4 hF4 hR4 h31 => ⟨rfl, by decide, ?_⟩
      rw [fin_M hp2 hi2] at hR4 h31
      have hFF : FrM wRd m (upM m4 1306 0 0 (m2 1306 0 0)) := FrM_trans (FrM_mono (FrS_M hF2) (by decide)) (FrM_mono (FrM_back hF4) (by decide))
      rw [hR4.2.2.2.2.1, h31]
      subst hx2
      exact ⟨fun e => ⟨trivial, by rw [if_neg e], hFF⟩, fun e => ⟨trivial, by rw [if_pos e], hFF⟩⟩
    rw [hR2.2.2.2.2.2.2.2.2.2, hR2.2.2.2.2.1]
    exact ⟨fun e => ⟨trivial, fin _ (by rw [if_neg e])⟩, fun e => ⟨trivial, fin _ (by rw [if_pos e])⟩⟩
  · refine Y_met rfl 1 rfl (sg_X12_needs_0 _ _ _ (cm_isShelf fun y hy => ⟨y, rfl, fun c2 => ?_, fun c2 => ?_⟩))
    · refine cm_rowF (by omega) fun w hw => ⟨w, rfl, fun c4 => by unfold RfB at hx hw; omega, fun c4 => cm_rowF (by omega) fun w2 hw2 => ⟨w2, rfl, trivial, ?_, FrM_refl _ _⟩⟩
      have : w2 = x := by unfold RfB at hx hw2; omega
      rw [this]
    · have : x = -1 := by unfold RfB at hx; omega
      exact ⟨trivial, by rw [this], FrM_refl _ _⟩
/-! the strongest hold of a raid that nobody ends -/
theorem run_27 {p : StR} {mv : Int → Int} (hp : OkPa p) : ∀ (k : Nat) (s : StR), s 27 ≤ runF p L mv k s 27 := by
  intro k
  induction k with
  | zero => intro s; exact Int.le_refl _
  | succ k ih =>
    intro s
    rw [runF_s]
    split
    · refine Int.le_trans ?_ (ih _)
      have e : s3S p L s (mv (s 22)) 27 = s 27 := by rw [s3S_k hp (by decide) (by decide) (by decide), s2S_k (by decide) (by decide) (by decide), s1S_k (by decide) (by decide), mvR_k (by decide) (by decide)]
      have e1 : s1S s (mv (s 22)) 27 = s 27 := by rw [s1S_k (by decide) (by decide), mvR_k (by decide) (by decide)]
      unfold secS
      split
      · rw [upS_n (by decide), e1]; omega
      · split
        · rw [upS_s, e]; omega
        · rw [upS_n (by decide), upS_s, e]; omega
    · exact Int.le_refl _
theorem might_run {p : StR} {mv : Int → Int} {w : Int} (hp : OkPa p) (hw : 0 ≤ w ∧ w ≤ 900) : ∀ (k : Nat) (s : StR), s 27 ≤ w → ¬ s 26 = 2 → (runF (upS p 13 w) L mv k s 26 = 2 ↔ w < runF (upS p 13 1000) L mv k s 27) := by
  have hq := fun v => pEq_u (p := p) (x := 13) (v := v) (by decide)
  intro k
  induction k with
  | zero =>
    intro s h1 h2
    have h1 : runF (upS p 13 1000) L mv 0 s 27 ≤ w := h1
    have h2 : ¬ runF (upS p 13 w) L mv 0 s 26 = 2 := h2
    omega
  | succ k ih =>
    intro s h1 h2
    rw [runF_s, runF_s]
    by_cases c : s 26 = 0
    · rw [if_pos c, if_pos c]
      have e : s3S p L s (mv (s 22)) 27 = s 27 := by rw [s3S_k hp (by decide) (by decide) (by decide), s2S_k (by decide) (by decide) (by decide), s1S_k (by decide) (by decide), mvR_k (by decide) (by decide)]
      have e6 : s3S p L s (mv (s 22)) 26 = 0 := by rw [s3S_26 hp]; exact c
      have h28 := alS_28 (L := L) (b := s 22) hp (s2S_28 (p := p) (s := s) (v := mv (s 22))) (n := (p 10).toNat) (by have := N_le hp; omega)
      have h28 : 0 ≤ s3S p L s (mv (s 22)) 28 ∧ s3S p L s (mv (s 22)) 28 ≤ 9 * (p 10).toNat := h28
      have hN := N_le hp
      by_cases c2 : s1S s (mv (s 22)) 21 = 0 ∧ 0 < s 21
      · have es : ∀ v, secS (upS p 13 v) L s (mv (s 22)) = upS (s1S s (mv (s 22))) 26 1 := fun v => by unfold secS; rw [if_pos c2]
        rw [es, es]
        refine ih _ ?_ ?_
        · rw [upS_n (by decide), s1S_k (by decide) (by decide), mvR_k (by decide) (by decide)]; exact h1
        · rw [upS_s]; decide
      · by_cases c3 : s3S p L s (mv (s 22)) 28 ≤ w
        · have es : ∀ v, w ≤ v → secS (upS p 13 v) L s (mv (s 22)) = upS (s3S p L s (mv (s 22))) 27 (max (s3S p L s (mv (s 22)) 27) (s3S p L s (mv (s 22)) 28)) := fun v hv => by
            unfold secS
            rw [if_neg c2, s3S_cg hp (hq v), upS_s, if_pos (by omega)]
          rw [es w (Int.le_refl _), es 1000 (by omega)]
          refine ih _ ?_ ?_
          · rw [upS_s, e]; omega
          · rw [upS_n (by decide), e6]; decide
        · have es1 : secS (upS p 13 w) L s (mv (s 22)) = upS (upS (s3S p L s (mv (s 22))) 27 (max (s3S p L s (mv (s 22)) 27) (s3S p L s (mv (s 22)) 28))) 26 2 := by
            unfold secS
            rw [if_neg c2, s3S_cg hp (hq w), upS_s, if_neg (by omega)]
          have es2 : secS (upS p 13 1000) L s (mv (s 22)) = upS (s3S p L s (mv (s 22))) 27 (max (s3S p L s (mv (s 22)) 27) (s3S p L s (mv (s 22)) 28)) := by
            unfold secS
            rw [if_neg c2, s3S_cg hp (hq 1000), upS_s, if_pos (by omega)]
          rw [es1, es2, runF_e (by rw [upS_s]; decide), upS_s]
          refine ⟨fun _ => ?_, fun _ => rfl⟩
          have := run_27 (L := L) (mv := mv) (OkPa_u (x := 13) (v := 1000) (by decide) hp) k (upS (s3S p L s (mv (s 22))) 27 (max (s3S p L s (mv (s 22)) 27) (s3S p L s (mv (s 22)) 28)))
          rw [upS_s] at this
          omega
    · rw [if_neg c, if_neg c]
      omega
theorem los_2 {s : StR} : losS s 26 = 2 ↔ s 26 = 2 := by
  unfold losS
  split
  · rename_i c; rw [upS_s, c]; decide
  · rfl
theorem might_fin {p : StR} {mv : Int → Int} {w : Int} (hp : OkPa p) (hw : 0 ≤ w ∧ w ≤ 900) : finS (upS p 13 w) L mv 26 = 2 ↔ w < finS (upS p 13 1000) L mv 27 := by
  unfold finS
  rw [los_2, losS_k (by decide), upS_n (by decide), upS_n (by decide), ini_u (by decide), ini_u (by decide)]
  exact might_run hp hw (p 14).toNat (iniS p) (by rw [ini_o (by decide)]; omega) (by rw [ini_o (by decide)]; decide)
set_option maxHeartbeats 1000000 in
theorem pr_mightHe {a : Int} (hI : InvS m) (hH : InvH m) (hL : LawC m L) (hM : LawM m L)
    (hQ : ∀ x m1, MtX yX12_mightHe cX12_mightHe 5 (some .int) (d + 9) [vr 12 0, vi a] m1 (fun r m2 => r = some (vi x) ∧ FrM wRd m m2) → Q (some (vi x)) m1) : MtX yX11_mightHe cX11_mightHe 3 (some .int) (d + 9) [vr 11 0, vi a] m Q := by
  have hp := pOf_ok hH
  have hi := pOf_in hH
  have hn := hp.1
  refine Y_met rfl 1 rfl (sg_X11_mightHe_0 _ _ _ (cc_refB hI fun x hx => ⟨x, rfl, fun c => ?_, fun c => ⟨trivial, hQ _ _ ?_⟩⟩))
  · unfold RfB at hx
    have ha : 0 ≤ a ∧ a ≤ 5 := by omega
    have hb : m 1359 0 a = -2 := by omega
    have hHC := pOf_hc hH hL
    refine cc_begin (p := pOf m) hp (pOf_bc hH) fun m1 hF1 hR1 => ⟨rfl, by omega, ?_⟩
    have hF1' : FrS wSc 0 m m1 := FrS_mono hF1 (by decide)
    have hq := pEq_u (p := pOf m) (x := 13) (v := 1000) (by decide)
    have hp2 : OkPa (upS (pOf m) 13 1000) := OkPa_u (by decide) hp
    have hi2 : OkIn (upS (pOf m) 13 1000) := OkIn_u (by decide) hp hi
    have hok1 := okS_ini hp2 hi2
    have hini : iniS (upS (pOf m) 13 1000) = iniS (pOf m) := ini_u (by decide)
    have h14 := hi2.2.2.1
    refine cc_raidS (L := L) (p := upS (pOf m) 13 1000) hp2 (by omega) (by rw [← hini]; exact hok1) (ini_o (by decide)) hI ha (HalfC_cg hn.2 hq.1 hq.2.2.1 hq.2.2.2.1 hq.2.2.2.2 (HalfC_S (FrS_u hF1' (by decide) (by decide)) hHC)) (FrS_u hF1' (by decide) (by decide)) (RepC_13 hR1) fun m2 hF2 hR2 => ⟨rfl, ?_⟩
    rw [← hini] at hR2
    have hR2 : RepC m2 0 (upS (pOf m) 13 1000) (finS (upS (pOf m) 13 1000) L (mvSh m a)) := hR2
    have h27 : 0 ≤ finS (upS (pOf m) 13 1000) L (mvSh m a) 27 := by
      have := run_27 (L := L) (mv := mvSh m a) hp2 ((upS (pOf m) 13 1000) 14).toNat (iniS (upS (pOf m) 13 1000))
      rw [ini_o (by decide)] at this
      unfold finS
      rw [losS_k (by decide)]
      exact this
    have hmf := fun w hw => might_fin (L := L) (mv := mvSh m a) (w := w) hp hw
    rw [hR2.2.2.2.2.2.2.2.2.1]
    generalize hX : finS (upS (pOf m) 13 1000) L (mvSh m a) 27 = X at *
    have fin : ∀ x, (x = if X ≤ 40 then X else -2) → Q (some (vi x)) m2 := by
      intro x hx2
      refine hQ _ _ (Y_met rfl 3 rfl (sg_X12_mightHe_0 _ _ _ (cm_isShelf fun y hy => ⟨y, rfl, fun c2 => ?_, fun c2 => by omega⟩)))
      have hb2 : m2 1359 0 a = -2 := by rw [FrS_n hF2 (by decide) (by decide)]; exact hb
      refine cm_rowF ha fun v hv => ⟨v, rfl, fun c3 => ⟨by decide, ?_⟩, fun c3 => by unfold RfB at hv; omega⟩
      have hHM2 : HalfM m2 (pOf m) L := HalfM_fr (FrS_M hF2) (by decide) (pOf_hm hH hM)
      have hBM2 : BasM m2 (pOf m) := BasM_fr (FrS_M hF2) (by decide) (pOf_bm hH)
      have done : ∀ (mm : AMem) (v : Int), FrM (5036 :: wMo) (upM m2 1306 0 2 v) mm → FrM wRd m (upM mm 1306 0 2 (m2 1306 0 2)) := fun mm v hF => FrM_trans (FrM_mono (FrS_M hF2) (by decide)) (FrM_mono (FrM_back hF) (by decide))
      have key : ∀ (r : Nat) (b : Int) (mm : AMem) (v : Int), b + r = 41 → 0 ≤ b → b ≤ X → FrM (5036 :: wMo) (upM m2 1306 0 2 v) mm → Y cX12_mightHe 5 RX12 (d + 9) none 36 [some (vr 12 0), some (vi a), some (vi (m2 1306 0 2)), some (vi (-2)), some (vi b)] [] mm (fun r mem2 => rk (some .int) r ∧ r = some (vi x) ∧ FrM wRd m mem2) := by
        intro r
        induction r with
        | zero =>
          intro b mm v hr hb0 hbX hF
          refine sg_X12_mightHe_36 _ _ _ _ _ _ ⟨fun _ => ⟨by decide, trivial, ?_, done mm v hF⟩, fun c => by omega⟩
          rw [hx2, if_neg (by omega)]
        | succ r ih =>
          intro b mm v hr hb0 hbX hF
          refine sg_X12_mightHe_36 _ _ _ _ _ _ ⟨fun c => by omega, fun _ => ⟨fun c => by omega, fun _ => ⟨by decide, ?_⟩⟩⟩
          have hF3 : FrM (5036 :: wMo) (upM m2 1306 0 2 b) (upM mm 1306 0 2 b) := FrM_ow hF
          have hp3 : OkPa (upS (pOf m) 13 b) := OkPa_u (by decide) hp
          have hi3 : OkIn (upS (pOf m) 13 b) := OkIn_u (Or.inl rfl) hp hi
          have hHM3 : HalfM (upM mm 1306 0 2 b) (upS (pOf m) 13 b) L := HalfM_fr hF3 (by decide) (HalfM_told (i := 2) hn.2 (by decide) hHM2)
          have hBM3 : BasM (upM mm 1306 0 2 b) (upS (pOf m) 13 b) := BasM_fr hF3 (by decide) (BasM_u hn.2 (by decide) (BasM_told (by decide) hBM2))
          have hF4 : FrM (1306 :: wRd) m (upM mm 1306 0 2 b) := FrM_trans (FrM_mono (FrM_uk (W := 1306 :: wSc) (FrM_mono (FrS_M hF2) (by decide)) (by decide) (by decide)) (by decide)) (FrM_mono hF3 (by decide))
          refine cm_raidS (most := 60) hp3 hi3 (by decide) hI ha hb hF4 (by decide) hHM3 hBM3 fun m4 hF5 hR5 h31 => ⟨rfl, ?_⟩
          rw [fin_M hp3 hi3] at hR5
          have hF6 := FrM_trans hF3 hF5
          rw [hR5.2.2.2.2.1, hmf b (by omega), w32i (by omega) (by omega)]
          refine ⟨fun c => ih (b + 1) m4 b (by omega) (by omega) (by omega) hF6, fun c => ?_⟩
          have ebX : b = X := by omega
          refine sg_X12_mightHe_36 _ _ _ _ _ _ ⟨fun _ => ⟨by decide, trivial, ?_, done m4 b hF6⟩, fun _ => ⟨fun _ => ⟨by decide, trivial, ?_, done m4 b hF6⟩, fun c => by omega⟩⟩
          · rw [hx2, if_pos (by omega), ebX]
          · rw [hx2, if_pos (by omega), ebX]
      exact key 41 0 m2 (m2 1306 0 2) (by decide) (by decide) h27 (by rw [up_id rfl]; exact FrM_refl _ _)
    exact ⟨fun e => ⟨trivial, fin _ (by rw [if_pos e])⟩, fun e => ⟨trivial, fin _ (by rw [if_neg e])⟩⟩
  · refine Y_met rfl 3 rfl (sg_X12_mightHe_0 _ _ _ (cm_isShelf fun y hy => ⟨y, rfl, fun c2 => ?_, fun c2 => ?_⟩))
    · refine cm_rowF (by omega) fun w hw => ⟨w, rfl, fun c4 => by unfold RfB at hx hw; omega, fun c4 => cm_rowF (by omega) fun w2 hw2 => ⟨w2, rfl, trivial, ?_, FrM_refl _ _⟩⟩
      have : w2 = x := by unfold RfB at hx hw2; omega
      rw [this]
    · have : x = -1 := by unfold RfB at hx; omega
      exact ⟨trivial, by rw [this], FrM_refl _ _⟩
end
