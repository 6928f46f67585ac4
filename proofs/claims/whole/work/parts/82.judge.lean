/-! the events of a sheet -/
section
variable {d : Nat} {Q : Option AV → AMem → Prop}
abbrev ShS := Int × Int × TmS × TmS × Int × Int
theorem lcx_eq {x y : Int} : lc x y = 0 ↔ x = y := by
  unfold lc
  split
  · omega
  · split <;> omega
theorem lcx_gt {x y : Int} : 0 < lc x y ↔ y < x := by
  unfold lc
  split
  · omega
  · split <;> omega
def evO (t : TmS) (x : Int) : TmS := if x = 8 then lvT t else itT ciT t x.toNat
def evU (u : TmS) (x : Int) : TmS := if x = 8 then ciT u else itT lvT u x.toNat
def evS (s x : Int) : Int := if x = 8 then s else s + x
def evV (v x : Int) : Int := if x = 8 then v + 1 else v
abbrev canE (t u : TmS) (x : Int) : Prop := t.1 ≠ 0 ∧ 0 ≤ x ∧ (x = 8 ∨ (x < 8 ∧ x ≤ popB u.1))
theorem okT_o {t : TmS} {x : Int} (h : okT t) : okT (evO t x) := by
  unfold evO
  split
  · exact okT_lv h
  · exact okT_itc h _
theorem okT_u {t : TmS} {x : Int} (h : okT t) : okT (evU t x) := by
  unfold evU
  split
  · exact okT_ci h
  · exact okT_itl h _
theorem R2T_sb {cB cN cL : Nat} {m : AMem} {a : Int} {t u : TmS} (h : R2T cB cN cL m (1 - a) u t) : R2T cB cN cL m a t u := by
  have := R2T_sw h
  rwa [show 1 - (1 - a) = a by omega] at this
theorem R2T_u {cB cN cL k j : Nat} {m : AMem} {a i v : Int} {t u : TmS} (h1 : cB ≠ k ∧ cN ≠ k ∧ cL ≠ k) (h : R2T cB cN cL m a t u) : R2T cB cN cL (upM m k j i v) a t u := by
  refine ⟨⟨?_, ?_, fun i hi => ?_⟩, ⟨?_, ?_, fun i hi => ?_⟩⟩
  · rw [up_k h1.1]; exact h.1.1
  · rw [up_k h1.2.1]; exact h.1.2.1
  · rw [up_k h1.2.2]; exact h.1.2.2 i hi
  · rw [up_k h1.1]; exact h.2.1
  · rw [up_k h1.2.1]; exact h.2.2.1
  · rw [up_k h1.2.2]; exact h.2.2.2 i hi
theorem cc_canBe {m : AMem} {a x : Int} {t u : TmS} (ha : a = 0 ∨ a = 1) (hu : okT u) (hR : R2T 1000 1002 1003 m a t u) (h : ∀ y : Int, (y = 1 ∧ canE t u x ∨ y = 0 ∧ ¬ canE t u x) → Q (some (vi y)) m) : MtX yX9_canBe cX9_canBe 4 (some .boolean) (d + 2) [vr 9 0, vi a, vl x] m Q := by
  have ha2 : 0 ≤ a ∧ a < 2 := by omega
  refine Y_met rfl 0 rfl (sg_X9_canBe_0 _ _ _ _ ?_)
  rw [hR.1.1, lcx_lt, lcx_le, lcx_eq, w32i (z := 1 - a) (by omega) (by omega), hR.2.1]
  refine ⟨ha2, fun c => ⟨Or.inl rfl, h _ (Or.inr ⟨rfl, fun q => q.1 c⟩)⟩, fun c => ⟨fun c2 => ⟨Or.inl rfl, h _ (Or.inr ⟨rfl, fun q => by omega⟩)⟩, fun c2 => ⟨fun c3 => ⟨fun c4 => ⟨Or.inr rfl, h _ (Or.inl ⟨rfl, c, by omega, Or.inl c4⟩)⟩, fun c4 => ⟨by omega, cc_bitCount hu.1.1 hu.1.2 ⟨_, rfl, ?_⟩⟩⟩, fun c3 => ⟨Or.inl rfl, h _ (Or.inr ⟨rfl, fun q => by omega⟩)⟩⟩⟩⟩
  rw [lcx_gt]
  exact ⟨fun c5 => ⟨Or.inl rfl, h _ (Or.inr ⟨rfl, fun q => by omega⟩)⟩, fun c5 => ⟨Or.inr rfl, h _ (Or.inl ⟨rfl, c, by omega, Or.inr ⟨by omega, by omega⟩⟩)⟩⟩
def wSh : List Nat := [1000, 1001, 1002, 1003]
def wSm : List Nat := [1345, 1346, 1347, 1348, 5049]
theorem cc_happen {m : AMem} {a x s v : Int} {t u : TmS} (ha : a = 0 ∨ a = 1) (ht : okT t) (hu : okT u) (hx : 0 ≤ x ∧ x ≤ 8) (hR : R2T 1000 1002 1003 m a t u) (hs : m 1001 0 a = s ∧ m 1001 0 (1 - a) = v) (hsv : 0 ≤ s ∧ s ≤ 1000 ∧ 0 ≤ v ∧ v ≤ 1000) (h : ∀ m2, FrM wSh m m2 → R2T 1000 1002 1003 m2 a (evO t x) (evU u x) → (m2 1001 0 a = evS s x ∧ m2 1001 0 (1 - a) = evV v x) → Q none m2) : MtX yX9_happen cX9_happen 5 none (d + 2) [vr 9 0, vi a, vi x] m Q := by
  have ha2 : 0 ≤ a ∧ a < 2 := by omega
  have hb : 1 - a = 0 ∨ 1 - a = 1 := by omega
  unfold evO evU evS evV at h
  have loop : ∀ (r i : Nat) (mm : AMem), (i : Int) + r = x → x ≠ 8 → FrM wSh m mm → R2T 1000 1002 1003 mm a (itT ciT t i) (itT lvT u i) → (mm 1001 0 a = s ∧ mm 1001 0 (1 - a) = v) → Y cX9_happen 5 RX9 (d + 2) none 34 [some (vr 9 0), some (vi a), some (vi x), some (vi (1 - a)), some (vi i)] [] mm (fun r mem2 => rk none r ∧ Q r mem2) := by
    intro r
    induction r with
    | zero =>
      intro i mm hi c8 hF hD hS
      refine sg_X9_happen_34 _ _ _ _ _ _ ⟨fun _ => ?_, fun c => by omega⟩
      rw [hS.1, w32i (z := s + x) (by omega) (by omega)]
      have e : x.toNat = i := by omega
      rw [if_neg c8, if_neg c8, if_neg c8, if_neg c8, e] at h
      exact ⟨ha2, ha2, trivial, h _ (FrM_uk hF (by decide) (by decide)) (R2T_u (by decide) hD) ⟨up_s, by rw [up_i (by omega)]; exact hS.2⟩⟩
    | succ r ih =>
      intro i mm hi c8 hF hD hS
      refine sg_X9_happen_34 _ _ _ _ _ _ ⟨fun c => by omega, fun _ => ?_⟩
      refine cc_leave hb (okT_itl hu i) (okT_itc ht i) (R2T_sw hD) fun m2 hF2 hR2 => ⟨rfl, ?_⟩
      refine cc_comeIn ha (okT_itc ht i) (okT_lv (okT_itl hu i)) (R2T_sb hR2) fun m3 hF3 hR3 => ⟨rfl, ?_⟩
      rw [w32n (by omega)]
      refine ih (i + 1) m3 (by omega) c8 (FrM_trans hF (FrM_trans (FrM_mono hF2 (by decide)) (FrM_mono hF3 (by decide)))) hR3 ?_
      rw [FrM_n hF3 (by decide) (by decide), FrM_n hF2 (by decide) (by decide), FrM_n hF3 (by decide) (by decide), FrM_n hF2 (by decide) (by decide)]
      exact hS
  refine Y_met rfl 2 rfl (sg_X9_happen_0 _ _ _ _ ?_)
  rw [w32i (z := 1 - a) (by omega) (by omega)]
  refine ⟨fun c8 => loop x.toNat 0 m (by omega) c8 (FrM_refl _ _) hR hs, fun c8 => ?_⟩
  rw [if_pos c8, if_pos c8, if_pos c8, if_pos c8] at h
  refine cc_leave ha ht hu hR fun m2 hF2 hR2 => ⟨rfl, ?_⟩
  refine cc_comeIn hb hu (okT_lv ht) (R2T_sw hR2) fun m3 hF3 hR3 => ⟨rfl, by omega, by omega, trivial, ?_⟩
  have e1 : m3 1001 0 (1 - a) = v := by rw [FrM_n hF3 (by decide) (by decide), FrM_n hF2 (by decide) (by decide)]; exact hs.2
  have e2 : m3 1001 0 a = s := by rw [FrM_n hF3 (by decide) (by decide), FrM_n hF2 (by decide) (by decide)]; exact hs.1
  rw [e1, w32i (z := v + 1) (by omega) (by omega)]
  exact h _ (FrM_uk (FrM_trans (FrM_mono hF2 (by decide)) (FrM_mono hF3 (by decide))) (by decide) (by decide)) (R2T_u (by decide) (R2T_sb hR3)) ⟨by rw [up_i (by omega)]; exact e2, up_s⟩
theorem cm_raids {m : AMem} {a x s v : Int} {t u : TmS} (ha : a = 0 ∨ a = 1) (ht : okT t) (hu : okT u) (hx : canE t u x) (hR : R2T 1345 1346 1347 m a t u) (hs : m 1348 0 a = s ∧ m 1348 0 (1 - a) = v) (hsv : 0 ≤ s ∧ s ≤ 1000 ∧ 0 ≤ v ∧ v ≤ 1000) (h : ∀ m2, FrM wSm m m2 → R2T 1345 1346 1347 m2 a (evO t x) (evU u x) → (m2 1348 0 a = evS s x ∧ m2 1348 0 (1 - a) = evV v x) → m2 12 0 49 = m 12 0 49 → Q none m2) : MtX yX12_raids cX12_raids 5 none (d + 3) [vr 12 0, vi a, vi x] m Q := by
  have ha2 : 0 ≤ a ∧ a < 2 := by omega
  have hb : 1 - a = 0 ∨ 1 - a = 1 := by omega
  have k12 : ∀ {m m2 : AMem}, FrM [1345, 1346, 1347, 1348] m m2 → m2 12 0 49 = m 12 0 49 := fun hF => hF 12 0 49 (by decide)
  unfold evO evU evS evV at h
  have loop2 : ∀ (r i : Nat) (mm : AMem), (i : Int) + r = x → x ≠ 8 → FrM [1345, 1346, 1347, 1348] m mm → R2T 1345 1346 1347 mm a (itT ciT t i) (itT lvT u x.toNat) → (mm 1348 0 a = s ∧ mm 1348 0 (1 - a) = v) → Y cX12_raids 5 RX12 (d + 3) none 54 [some (vr 12 0), some (vi a), some (vi x), some (vi (1 - a)), some (vi i)] [] mm (fun r mem2 => rk none r ∧ Q r mem2) := by
    intro r
    induction r with
    | zero =>
      intro i mm hi c8 hF hD hS
      refine sg_X12_raids_54 _ _ _ _ _ _ ⟨fun _ => ?_, fun c => by omega⟩
      rw [hS.1, w32i (z := s + x) (by omega) (by omega)]
      have e : x.toNat = i := by omega
      rw [if_neg c8, if_neg c8, if_neg c8, if_neg c8] at h
      rw [e] at h hD
      have hF2 : FrM [1345, 1346, 1347, 1348] m (upM mm 1348 0 a (s + x)) := FrM_uk hF (by decide) (by decide)
      exact ⟨ha2, ha2, trivial, h _ (FrM_mono hF2 (by decide)) (R2T_u (by decide) hD) ⟨up_s, by rw [up_i (by omega)]; exact hS.2⟩ (k12 hF2)⟩
    | succ r ih =>
      intro i mm hi c8 hF hD hS
      refine sg_X12_raids_54 _ _ _ _ _ _ ⟨fun c => by omega, fun _ => ?_⟩
      refine cm_comesBack ha (okT_itc ht i) (okT_itl hu _) hD fun m3 hF3 hR3 => ⟨rfl, ?_⟩
      rw [w32n (by omega)]
      refine ih (i + 1) m3 (by omega) c8 (FrM_trans hF (FrM_mono hF3 (by decide))) hR3 ?_
      rw [FrM_n hF3 (by decide) (by decide), FrM_n hF3 (by decide) (by decide)]
      exact hS
  have loop1 : ∀ (r i : Nat) (mm : AMem), (i : Int) + r = x → x ≠ 8 → FrM [1345, 1346, 1347, 1348] m mm → R2T 1345 1346 1347 mm a t (itT lvT u i) → (mm 1348 0 a = s ∧ mm 1348 0 (1 - a) = v) → Y cX12_raids 5 RX12 (d + 3) none 34 [some (vr 12 0), some (vi a), some (vi x), some (vi (1 - a)), some (vi i)] [] mm (fun r mem2 => rk none r ∧ Q r mem2) := by
    intro r
    induction r with
    | zero =>
      intro i mm hi c8 hF hD hS
      refine sg_X12_raids_34 _ _ _ _ _ _ ⟨fun _ => ?_, fun c => by omega⟩
      have e : i = x.toNat := by omega
      rw [e] at hD
      have := loop2 x.toNat 0 mm (by omega) c8 hF hD hS
      exact this
    | succ r ih =>
      intro i mm hi c8 hF hD hS
      refine sg_X12_raids_34 _ _ _ _ _ _ ⟨fun c => by omega, fun _ => ?_⟩
      refine cm_goesOut hb (okT_itl hu i) ht (pop_itl hu i (by omega)).2 (R2T_sw hD) fun m3 hF3 hR3 => ⟨rfl, ?_⟩
      rw [w32n (by omega)]
      refine ih (i + 1) m3 (by omega) c8 (FrM_trans hF (FrM_mono hF3 (by decide))) (R2T_sb hR3) ?_
      rw [FrM_n hF3 (by decide) (by decide), FrM_n hF3 (by decide) (by decide)]
      exact hS
  refine Y_met rfl 2 rfl (sg_X12_raids_0 _ _ _ _ ?_)
  rw [w32i (z := 1 - a) (by omega) (by omega)]
  refine ⟨fun c8 => loop1 x.toNat 0 m (by omega) c8 (FrM_refl _ _) hR hs, fun c8 => ?_⟩
  rw [if_pos c8, if_pos c8, if_pos c8, if_pos c8] at h
  refine cm_goesOut ha ht hu hx.1 hR fun m2 hF2 hR2 => ⟨rfl, ?_⟩
  refine cm_comesBack hb hu (okT_lv ht) (R2T_sw hR2) fun m3 hF3 hR3 => ⟨rfl, by omega, by omega, trivial, ?_⟩
  have e1 : m3 1348 0 (1 - a) = v := by rw [FrM_n hF3 (by decide) (by decide), FrM_n hF2 (by decide) (by decide)]; exact hs.2
  have e2 : m3 1348 0 a = s := by rw [FrM_n hF3 (by decide) (by decide), FrM_n hF2 (by decide) (by decide)]; exact hs.1
  rw [e1, w32i (z := v + 1) (by omega) (by omega)]
  have hF4 : FrM [1345, 1346, 1347, 1348] m (upM m3 1348 0 (1 - a) (v + 1)) := FrM_uk (FrM_trans (FrM_mono hF2 (by decide)) (FrM_mono hF3 (by decide))) (by decide) (by decide)
  exact h _ (FrM_mono hF4 (by decide)) (R2T_u (by decide) (R2T_sb hR3)) ⟨by rw [up_i (by omega)]; exact e2, up_s⟩ (k12 hF4)
/-- a whole sheet, from j on with r to go: the verdict, who is next, the two teams and their points -/
def rdT (mv : Int → Int) : Nat → Int → TmS → TmS → Int → Int → ShS
  | 0, j, t, u, s, v => (-2, j % 2, t, u, s, v)
  | r + 1, j, t, u, s, v => if canE t u (mv j) then rdT mv r (j + 1) (evU u (mv j)) (evO t (mv j)) (evV v (mv j)) (evS s (mv j)) else (j, j % 2, t, u, s, v)
theorem rdT_s {mv : Int → Int} {r : Nat} {j s v : Int} {t u : TmS} : rdT mv (r + 1) j t u s v = if canE t u (mv j) then rdT mv r (j + 1) (evU u (mv j)) (evO t (mv j)) (evV v (mv j)) (evS s (mv j)) else (j, j % 2, t, u, s, v) := rfl
def ShR (cB cS cN cL : Nat) (m : AMem) (z : ShS) : Prop := (z.2.1 = 0 ∨ z.2.1 = 1) ∧ R2T cB cN cL m z.2.1 z.2.2.1 z.2.2.2.1 ∧ m cS 0 z.2.1 = z.2.2.2.2.1 ∧ m cS 0 (1 - z.2.1) = z.2.2.2.2.2
def szA (z : Int) : TmS := (ebB (z / 10), [])
def szU (z : Int) : TmS := (ebB (z % 10), [])
def okZ (z : Int) : Prop := 0 ≤ z ∧ 1 ≤ z / 10 ∧ z / 10 ≤ 7 ∧ 1 ≤ z % 10 ∧ z % 10 ≤ 7
theorem okZ_a {z : Int} (h : okZ z) : okT (szA z) ∧ okT (szU z) := by
  unfold okZ at h
  have e1 := (eb_all (n := z / 10) (by omega) (by omega)).1
  have e2 := (eb_all (n := z % 10) (by omega) (by omega)).1
  have p1 := pop_eb (n := z / 10) (by omega) (by omega)
  have p2 := pop_eb (n := z % 10) (by omega) (by omega)
  refine ⟨⟨e1, ?_, fun x hx => absurd hx (by simp [szA]), by simp [szA]⟩, ⟨e2, ?_, fun x hx => absurd hx (by simp [szU]), by simp [szU]⟩⟩
  · show popB (ebB (z / 10)) + ((0 : Nat) : Int) ≤ 7
    omega
  · show popB (ebB (z % 10)) + ((0 : Nat) : Int) ≤ 7
    omega
theorem an_par {j : Int} (h0 : 0 ≤ j) (h1 : j < 60) : an32 j 1 = j % 2 := by
  have : ∀ j : Fin 60, an32 ((j.val : Nat) : Int) 1 = ((j.val : Nat) : Int) % 2 := by decide +kernel
  have := this ⟨j.toNat, by omega⟩
  rwa [show (((⟨j.toNat, by omega⟩ : Fin 60).val : Nat) : Int) = j by show ((j.toNat : Nat) : Int) = j; omega] at this
theorem ev_rg {t u : TmS} {x s v B : Int} (hx : canE t u x) (h : 0 ≤ s ∧ s ≤ B ∧ 0 ≤ v ∧ v ≤ B) : 0 ≤ evV v x ∧ evV v x ≤ B + 8 ∧ 0 ≤ evS s x ∧ evS s x ≤ B + 8 := by
  unfold evV evS
  split <;> omega
theorem R2T_nx {cB cN cL : Nat} {m : AMem} {j : Int} {t u : TmS} (h : R2T cB cN cL m (j % 2) t u) : R2T cB cN cL m ((j + 1) % 2) u t := by
  have := R2T_sw h
  rwa [show 1 - j % 2 = (j + 1) % 2 by omega] at this
theorem sz_t {z : Int} (h : okZ z) : w32 (Int.tdiv z 10) = z / 10 ∧ Int.tmod z 10 = z % 10 := by
  unfold okZ at h
  exact ⟨by rw [tdiv10 h.1]; exact w32i (by omega) (by omega), tmod10 h.1⟩
theorem cc_read {m : AMem} {a z : Int} (hz : okZ z) (hI : InvS m) (ha : 0 ≤ a ∧ a ≤ 5) (hb : m 1359 0 a = -2) (h : ∀ m2, FrM wSh m m2 → ShR 1000 1001 1002 1003 m2 (rdT (fun j => m 1361 0 (60 * a + j)) (m 1360 0 a).toNat 0 (szA z) (szU z) 0 0) → Q (some (vi (rdT (fun j => m 1361 0 (60 * a + j)) (m 1360 0 a).toNat 0 (szA z) (szU z) 0 0).1)) m2) : MtX yX9_read cX9_read 5 (some .int) (d + 3) [vr 9 0, vr 10 a.toNat, vi z] m Q := by
  have hs := invS_at hI ha
  generalize hmv : (fun j => m 1361 0 (60 * a + j)) = mv at h
  have mve : ∀ j, m 1361 0 (60 * a + j) = mv j := fun j => by rw [← hmv]
  generalize hZ : rdT mv (m 1360 0 a).toNat 0 (szA z) (szU z) 0 0 = Z at h
  have loop : ∀ (r : Nat) (j s v : Int) (t u : TmS) (mm : AMem), j + r = m 1360 0 a → 0 ≤ j → FrM wSh m mm → okT t → okT u → R2T 1000 1002 1003 mm (j % 2) t u → (mm 1001 0 (j % 2) = s ∧ mm 1001 0 (1 - j % 2) = v) → (0 ≤ s ∧ s ≤ 8 * j ∧ 0 ≤ v ∧ v ≤ 8 * j) → rdT mv r j t u s v = Z → Y cX9_read 5 RX9 (d + 3) none 46 [some (vr 9 0), some (vr 10 a.toNat), some (vi z), some (vi j), none] [] mm (fun r mem2 => rk (some .int) r ∧ Q r mem2) := by
    intro r
    induction r with
    | zero =>
      intro j s v t u mm hj h0 hF ht hu hR hS hb2 hr
      have e1 : mm 10 a.toNat 1 = m 1360 0 a := by rw [FrM_n hF (by decide) (by decide)]; exact hs.2.1.2.2
      refine sg_X9_read_46 _ _ _ _ _ ⟨fun _ => ?_, fun c => by omega⟩
      have hr : ((-2, j % 2, t, u, s, v) : ShS) = Z := hr
      subst hr
      exact ⟨trivial, h mm hF ⟨by show j % 2 = 0 ∨ j % 2 = 1; omega, hR, hS⟩⟩
    | succ r ih =>
      intro j s v t u mm hj h0 hF ht hu hR hS hb2 hr
      have e1 : mm 10 a.toNat 1 = m 1360 0 a := by rw [FrM_n hF (by decide) (by decide)]; exact hs.2.1.2.2
      have e2 : mm 1100 a.toNat j = mv j := by rw [FrM_n hF (by decide) (by decide), ← mve]; exact (hs.2.2 j h0 (by omega)).1
      have e3 := (hs.2.2 j h0 (by omega)).2 hb
      rw [(hs.2.2 j h0 (by omega)).1, mve] at e3
      refine sg_X9_read_46 _ _ _ _ _ ⟨fun c => by omega, fun _ => ⟨by omega, ?_⟩⟩
      rw [an_par h0 (by omega), e2]
      rw [rdT_s] at hr
      refine cc_canBe (by omega) hu hR fun y hy => ⟨y, rfl, fun c => ⟨by omega, ?_⟩, fun c => ⟨trivial, ?_⟩⟩
      · have hc : canE t u (mv j) := by
          rcases hy with q | q
          · exact q.2
          · exact absurd q.1 c
        rw [if_pos hc] at hr
        rw [e2, w32i (z := mv j) (by omega) (by omega)]
        refine cc_happen (by omega) ht hu (by omega) hR hS (by omega) fun m2 hF2 hR2 hS2 => ⟨rfl, ?_⟩
        rw [w32i (z := j + 1) (by omega) (by omega)]
        refine Y_fg (by exact ⟨rfl, rfl, rfl, rfl, trivial⟩) (ih (j + 1) _ _ _ _ m2 (by omega) (by omega) (FrM_trans hF hF2) (okT_u hu) (okT_o ht) (R2T_nx hR2) ?_ ?_ hr)
        · rw [show (j + 1) % 2 = 1 - j % 2 by omega, show 1 - (1 - j % 2) = j % 2 by omega]
          exact ⟨hS2.2, hS2.1⟩
        · have := ev_rg hc hb2
          omega
      · have hc : ¬ canE t u (mv j) := by
          rcases hy with q | q
          · exact absurd c (by omega)
          · exact q.2
        rw [if_neg hc] at hr
        subst hr
        exact h mm hF ⟨by show j % 2 = 0 ∨ j % 2 = 1; omega, hR, hS⟩
  have ok := okZ_a hz
  have w1 : w32 1 = 1 := by decide +kernel
  refine Y_met rfl 2 rfl (sg_X9_read_0 _ _ _ _ ?_)
  rw [(sz_t hz).1, (sz_t hz).2]
  refine ⟨by decide, by decide, Y_met rfl 2 rfl (sg_J7_fill_53178_p_0 _ _ _ (sg_J7_fill_53178_p_5 _ _ _ _ _ ⟨fun c => absurd c (by decide), fun _ => ⟨by decide, sg_J7_fill_53178_p_5 _ _ _ _ _ ⟨fun c => absurd c (by decide), fun _ => ⟨by decide, sg_J7_fill_53178_p_5 _ _ _ _ _ ⟨fun _ => ⟨trivial, rfl, ?_⟩, fun c => absurd (by decide) c⟩⟩⟩⟩⟩))⟩
  refine Y_met rfl 2 rfl (sg_J7_fill_53178_o_0 _ _ _ (sg_J7_fill_53178_o_5 _ _ _ _ _ ⟨fun c => absurd c (by decide), fun _ => ⟨by decide, sg_J7_fill_53178_o_5 _ _ _ _ _ ⟨fun c => absurd c (by decide), fun _ => ⟨by decide, sg_J7_fill_53178_o_5 _ _ _ _ _ ⟨fun _ => ⟨trivial, rfl, ?_⟩, fun c => absurd (by decide) c⟩⟩⟩⟩⟩))
  refine loop (m 1360 0 a).toNat 0 0 0 (szA z) (szU z) _ (by omega) (by decide) ?_ ok.1 ok.2 ⟨⟨?_, ?_, fun i hi => absurd hi (Nat.not_lt_zero i)⟩, ⟨?_, ?_, fun i hi => absurd hi (Nat.not_lt_zero i)⟩⟩ ⟨?_, ?_⟩ (by omega) hZ
  · exact FrM_uk (FrM_uk (FrM_uk (FrM_uk (FrM_uk (FrM_uk (FrM_refl _ _) (by decide) (by decide)) (by decide) (by decide)) (by decide) (by decide)) (by decide) (by decide)) (by decide) (by decide)) (by decide) (by decide)
  · simp [upM, w1, szA, ebB]
  · simp [upM, w1, szA]
  · simp [upM, w1, szU, ebB]
  · simp [upM, w1, szU]
  · simp [upM, w1]
  · simp [upM, w1]
theorem cm_goSheet {m : AMem} {a z : Int} (hz : okZ z) (hI : InvS m) (ha : 0 ≤ a ∧ a ≤ 5) (hb : m 1359 0 a = -2) (h : ∀ m2, FrM wSm m m2 → ShR 1345 1348 1346 1347 m2 (rdT (fun j => m 1361 0 (60 * a + j)) (m 1360 0 a).toNat 0 (szA z) (szU z) 0 0) → m2 12 0 49 = (rdT (fun j => m 1361 0 (60 * a + j)) (m 1360 0 a).toNat 0 (szA z) (szU z) 0 0).1 → Q none m2) : MtX yX12_goSheet cX12_goSheet 6 none (d + 4) [vr 12 0, vi a, vi z] m Q := by
  have hs := invS_at hI ha
  generalize hmv : (fun j => m 1361 0 (60 * a + j)) = mv at h
  have mve : ∀ j, m 1361 0 (60 * a + j) = mv j := fun j => by rw [← hmv]
  generalize hZ : rdT mv (m 1360 0 a).toNat 0 (szA z) (szU z) 0 0 = Z at h
  have stop : ∀ (j s v : Int) (t u : TmS) (mm : AMem) (b c : Option AV), 0 ≤ j → j < m 1360 0 a → FrM wSm m mm → R2T 1345 1346 1347 mm (j % 2) t u → (mm 1348 0 (j % 2) = s ∧ mm 1348 0 (1 - j % 2) = v) → mm 12 0 49 = j → ((j, j % 2, t, u, s, v) : ShS) = Z → Y cX12_goSheet 6 RX12 (d + 4) none 63 [some (vr 12 0), some (vi a), some (vi z), some (vi (j + 1)), none, none] [] mm (fun r mem2 => rk none r ∧ Q r mem2) := by
    intro j s v t u mm b c h0 h1 hF hR hS h49 hr
    have e1 : mm 1360 0 a = m 1360 0 a := FrM_n hF (by decide) (by decide)
    subst hr
    have fin : Q none mm := h mm hF ⟨by show j % 2 = 0 ∨ j % 2 = 1; omega, hR, hS⟩ h49
    exact sg_X12_goSheet_63 _ _ _ _ _ ⟨by omega, fun _ => ⟨trivial, fin⟩, fun _ => ⟨fun _ => ⟨trivial, fin⟩, fun c => by omega⟩⟩
  have loop : ∀ (r : Nat) (j s v : Int) (t u : TmS) (mm : AMem), j + r = m 1360 0 a → 0 ≤ j → FrM wSm m mm → okT t → okT u → R2T 1345 1346 1347 mm (j % 2) t u → (mm 1348 0 (j % 2) = s ∧ mm 1348 0 (1 - j % 2) = v) → mm 12 0 49 = -2 → (0 ≤ s ∧ s ≤ 8 * j ∧ 0 ≤ v ∧ v ≤ 8 * j) → rdT mv r j t u s v = Z → Y cX12_goSheet 6 RX12 (d + 4) none 63 [some (vr 12 0), some (vi a), some (vi z), some (vi j), none, none] [] mm (fun r mem2 => rk none r ∧ Q r mem2) := by
    intro r
    induction r with
    | zero =>
      intro j s v t u mm hj h0 hF ht hu hR hS h49 hb2 hr
      have e1 : mm 1360 0 a = m 1360 0 a := FrM_n hF (by decide) (by decide)
      refine sg_X12_goSheet_63 _ _ _ _ _ ⟨by omega, fun _ => ?_, fun c => by omega⟩
      have hr : ((-2, j % 2, t, u, s, v) : ShS) = Z := hr
      subst hr
      exact ⟨trivial, h mm hF ⟨by show j % 2 = 0 ∨ j % 2 = 1; omega, hR, hS⟩ h49⟩
    | succ r ih =>
      intro j s v t u mm hj h0 hF ht hu hR hS h49 hb2 hr
      have e1 : mm 1360 0 a = m 1360 0 a := FrM_n hF (by decide) (by decide)
      have e2 : mm 1361 0 (60 * a + j) = mv j := by rw [FrM_n hF (by decide) (by decide), ← mve]
      have e3 := (hs.2.2 j h0 (by omega)).2 hb
      rw [(hs.2.2 j h0 (by omega)).1, mve] at e3
      rw [rdT_s] at hr
      have bad : ∀ {b c : Option AV}, ¬ canE t u (mv j) → Y cX12_goSheet 6 RX12 (d + 4) none 63 [some (vr 12 0), some (vi a), some (vi z), some (vi (w32 (j + 1))), none, none] [] (upM mm 12 0 49 j) (fun r mem2 => rk none r ∧ Q r mem2) := by
        intro b c hc
        rw [if_neg hc] at hr
        rw [w32i (z := j + 1) (by omega) (by omega)]
        refine stop j s v t u _ none none h0 (by omega) (FrM_up hF (by decide)) (R2T_u (by decide) hR) ?_ up_s hr
        rw [up_k (by decide), up_k (by decide)]
        exact hS
      have good : canE t u (mv j) → ∀ m2, FrM wSm mm m2 → R2T 1345 1346 1347 m2 (j % 2) (evO t (mv j)) (evU u (mv j)) → (m2 1348 0 (j % 2) = evS s (mv j) ∧ m2 1348 0 (1 - j % 2) = evV v (mv j)) → m2 12 0 49 = mm 12 0 49 → Y cX12_goSheet 6 RX12 (d + 4) none 63 [some (vr 12 0), some (vi a), some (vi z), some (vi (w32 (j + 1))), none, none] [] m2 (fun r mem2 => rk none r ∧ Q r mem2) := by
        intro hc m2 hF2 hR2 hS2 h492
        rw [if_pos hc] at hr
        rw [w32i (z := j + 1) (by omega) (by omega)]
        refine ih (j + 1) _ _ _ _ m2 (by omega) (by omega) (FrM_trans hF hF2) (okT_u hu) (okT_o ht) (R2T_nx hR2) ?_ (h492.trans h49) ?_ hr
        · rw [show (j + 1) % 2 = 1 - j % 2 by omega, show 1 - (1 - j % 2) = j % 2 by omega]
          exact ⟨hS2.2, hS2.1⟩
        · have := ev_rg hc hb2
          omega
      have tm : Int.tmod j 2 = j % 2 := Int.tmod_eq_emod_of_nonneg h0
      refine sg_X12_goSheet_63 _ _ _ _ _ ⟨by omega, fun c => by omega, fun _ => ⟨fun c => by omega, fun _ => cm_at ha h0 (by omega) ⟨_, rfl, ?_⟩⟩⟩
      rw [e2, w32i (z := mv j) (by omega) (by omega), tm, w32i (z := 1 - j % 2) (by omega) (by omega)]
      refine cm_in fun y hy => ⟨y, rfl, fun c => ?_, fun c => ⟨by omega, fun c2 => ?_, fun c2 => ⟨fun c3 => ?_, fun c3 => ⟨by omega, ?_⟩⟩⟩⟩
      · exact Y_fg (by exact ⟨rfl, rfl, rfl, rfl, trivial⟩) (bad (b := none) (c := none) fun q => by omega)
      · rw [hR.1.1] at c2
        exact Y_fg (by exact ⟨rfl, rfl, rfl, rfl, trivial⟩) (bad (b := none) (c := none) fun q => q.1 c2)
      · rw [hR.1.1] at c2
        have hc : canE t u (mv j) := ⟨c2, by omega, Or.inl (by omega)⟩
        refine cm_raids (by omega) ht hu hc hR hS (by omega) fun m2 hF2 hR2 hS2 h492 => ⟨rfl, ?_⟩
        exact Y_fg (by exact ⟨rfl, rfl, rfl, rfl, trivial⟩) (good hc m2 hF2 hR2 hS2 h492)
      · rw [hR.1.1] at c2
        rw [hR.2.1]
        refine cm_bitsOf hu.1.1 hu.1.2 ⟨_, rfl, fun c4 => ?_, fun c4 => ?_⟩
        · have hc : canE t u (mv j) := ⟨c2, by omega, Or.inr ⟨by omega, c4⟩⟩
          refine cm_raids (by omega) ht hu hc hR hS (by omega) fun m2 hF2 hR2 hS2 h492 => ⟨rfl, ?_⟩
          exact Y_fg (by exact ⟨rfl, rfl, rfl, rfl, trivial⟩) (good hc m2 hF2 hR2 hS2 h492)
        · exact Y_fg (by exact ⟨rfl, rfl, rfl, rfl, trivial⟩) (bad (b := none) (c := none) fun q => by omega)
  have ok := okZ_a hz
  have w1 : w32 1 = 1 := by decide +kernel
  refine Y_met rfl 3 rfl (sg_X12_goSheet_0 _ _ _ _ ?_)
  rw [(sz_t hz).1, (sz_t hz).2]
  refine ⟨by decide, by decide, sg_X12_goSheet_30 _ _ _ _ _ ⟨fun c => absurd c (by decide), fun _ => ⟨by decide, by decide, sg_X12_goSheet_30 _ _ _ _ _ ⟨fun c => absurd c (by decide), fun _ => ⟨by decide, by decide, sg_X12_goSheet_30 _ _ _ _ _ ⟨fun _ => ?_, fun c => absurd (by decide) c⟩⟩⟩⟩⟩⟩
  refine loop (m 1360 0 a).toNat 0 0 0 (szA z) (szU z) _ (by omega) (by decide) ?_ ok.1 ok.2 ⟨⟨?_, ?_, fun i hi => absurd hi (Nat.not_lt_zero i)⟩, ⟨?_, ?_, fun i hi => absurd hi (Nat.not_lt_zero i)⟩⟩ ⟨?_, ?_⟩ up_s (by omega) hZ
  · exact FrM_up (FrM_uk (FrM_uk (FrM_uk (FrM_uk (FrM_uk (FrM_uk (FrM_refl _ _) (by decide) (by decide)) (by decide) (by decide)) (by decide) (by decide)) (by decide) (by decide)) (by decide) (by decide)) (by decide) (by decide)) (by decide)
  · simp [upM, w1, szA, ebB]
  · simp [upM, w1, szA]
  · simp [upM, w1, szU, ebB]
  · simp [upM, w1, szU]
  · simp [upM, w1]
  · simp [upM, w1]
end
