/-! best and touch, both sides -/
section
variable {d : Nat} {p s : StR} {L : Option LnL} {m : AMem} {Q : Option AV → AMem → Prop}
def wBc : List Nat := [7, 800, 801, 802, 402, 901, 902, 8, 5036, 5029, 5030, 5031, 5032, 5033, 5034, 5035, 1327, 1328, 1324, 1325, 1337, 1338, 5039, 5040, 5041]
theorem InvSr_fr {W : List Nat} {m m2 : AMem} (h : FrM W m m2) (h2 : ∀ c ∈ [2, 8, 902], c ∉ W) (hS : InvSr m p L) : InvSr m2 p L := by
  have e2 : m2 2 0 = m 2 0 := FrM_f h (by decide) (h2 _ (by decide))
  have e8 : m2 8 0 = m 8 0 := FrM_f h (by decide) (h2 _ (by decide))
  have e9 : m2 902 0 = m 902 0 := FrM_f h (by decide) (h2 _ (by decide))
  unfold InvSr cashS bsC at hS ⊢
  simp only [e2, e8, e9]
  exact hS
set_option maxHeartbeats 1000000 in
theorem pr_best {a b : Int} (hH : InvH m) (hL : LawC m L) (hM : LawM m L) (hS : InvSr m (pOf m) L)
    (hQ : ∀ x m1, MtX yX12_best cX12_best 5 (some .int) (d + 18) [vr 12 0, vi a, vi b] m1 (fun r m2 => r = some (vi x) ∧ InvSr m2 (pOf m) L ∧ FrM wBc m m2) → Q (some (vi x)) m1) : MtX yX11_best cX11_best 3 (some .int) (d + 18) [vr 11 0, vi a, vi b] m Q := by
  have hp := pOf_ok hH
  have hi := pOf_in hH
  have hHC := pOf_hc hH hL
  have hHM := pOf_hm hH hM
  have hBC := pOf_bc hH
  have hBM := pOf_bm hH
  have bad : ¬ (1 ≤ a ∧ a ≤ 5) ∨ ¬ -1 ≤ b → Q (some (vi (-2000000000))) m := fun g => hQ _ _ (Y_met rfl 2 rfl (sg_X12_best_0 _ _ _ _ (cm_in fun y hy => ⟨y, rfl, fun q => ⟨trivial, rfl, hS, FrM_refl _ _⟩, fun q => ⟨fun c => by omega, fun c => ⟨trivial, rfl, hS, FrM_refl _ _⟩⟩⟩)))
  -- the reference, over a memory of the class
  have run : ∀ (n : Nat) (x : Int) (m1 : AMem), a = n → (1 ≤ n ∧ n ≤ 5) → -1 ≤ b → FrM wSe m m1 → InvSr m1 (pOf m) L → (x = if 0 ≤ b then (if a ≤ b then -2 else (bNx (-1) (pOf m) L n (fun _ => 0)).2 b) else (bNx (-1) (pOf m) L n (fun _ => 0)).1) → Q (some (vi x)) m1 := by
    intro n x m1 ha hn hb hF hS1 hx
    subst ha
    refine hQ _ _ (Y_met rfl 2 rfl (sg_X12_best_0 _ _ _ _ (cm_in fun y hy => ⟨y, rfl, fun q => by omega, fun _ => ⟨fun _ => ?_, fun c => by omega⟩⟩)))
    refine cm_bestL (L := L) hp hi hn (HalfM_fr hF (by decide) hHM) (BasM_fr hF (by decide) hBM) fun m2 hF2 hB2 => ?_
    obtain ⟨f, hf1, hf2⟩ := hB2
    have post : ∀ y, y = x → some (vi y) = some (vi x) ∧ InvSr m2 (pOf m) L ∧ FrM wBc m m2 := fun y hy => ⟨by rw [hy], InvSr_fr hF2 (by decide) hS1, FrM_trans (FrM_mono hF (by decide)) (FrM_mono hF2 (by decide))⟩
    have gt := bN_gt (L := L) (n := n) (f := f) hp hi
    have i1 := fd_ini (W := wW (-1) (pOf m) L n) (D := dD n) (x := iniW (-1)) (f := f) (g := fun _ => 0) (5 ^ n) (i := 0)
    have j1 : (bNx (-1) (pOf m) L n f).1 = (bNx (-1) (pOf m) L n (fun _ => 0)).1 := i1.1
    have j2 : (bNx (-1) (pOf m) L n f).2 = (bNx (-1) (pOf m) L n (fun _ => 0)).2 := i1.2 gt
    refine ⟨fun c => ⟨fun c2 => post _ ?_, fun c2 => post _ ?_⟩, fun c => post _ ?_⟩
    · rw [hx, if_pos c, if_pos c2]
    · rw [hx, if_pos c, if_neg c2, hf2 b c (by omega), j2]
    · rw [hx, if_neg c, hf1, j1]
  refine Y_met rfl 0 rfl (sg_X11_best_0 _ _ _ _ ⟨fun c => ⟨trivial, bad (by omega)⟩, fun c1 => ⟨fun c => ⟨trivial, bad (by omega)⟩, fun c2 => ⟨fun c3 => ⟨fun c4 => ?_, fun c4 => ⟨trivial, ?_⟩⟩, fun c => ⟨trivial, bad (by omega)⟩⟩⟩⟩)
  · obtain ⟨n, rfl⟩ : ∃ n : Nat, a = n := ⟨a.toNat, by omega⟩
    refine cc_findBest hp hi (n := n) (by omega) hHC hBC rfl hS fun m2 hF hS2 hB2 => ⟨rfl, ?_⟩
    obtain ⟨f, hf1, hf2⟩ := hB2
    have gt := bN_gt (L := L) (n := n) (f := f) hp hi
    have i1 := fd_ini (W := wW (-1) (pOf m) L n) (D := dD n) (x := iniW (-1)) (f := f) (g := fun _ => 0) (5 ^ n) (i := 0)
    have j1 : (bNx (-1) (pOf m) L n f).1 = (bNx (-1) (pOf m) L n (fun _ => 0)).1 := i1.1
    have j2 : (bNx (-1) (pOf m) L n f).2 = (bNx (-1) (pOf m) L n (fun _ => 0)).2 := i1.2 gt
    refine ⟨fun c => ⟨by omega, trivial, run n _ m2 rfl (by omega) c3 hF hS2 ?_⟩, fun c => ⟨trivial, run n _ m2 rfl (by omega) c3 hF hS2 ?_⟩⟩
    · rw [if_pos c, if_neg (by omega), hf2 b c (by omega), j2]
    · rw [if_neg c, hf1, j1]
  · obtain ⟨n, rfl⟩ : ∃ n : Nat, a = n := ⟨a.toNat, by omega⟩
    exact run n _ m rfl (by omega) c3 (FrM_refl _ _) hS (by rw [if_pos (by omega), if_pos (by omega)])
def wBt : List Nat := [5036, 5029, 5030, 5031, 5032, 5033, 5034, 5035, 1327, 1328, 1324, 1325, 1337, 1338, 5039, 5040]
theorem cm_findT {m0 : AMem} {n : Nat} {who : Int} (hp : OkPa p) (hi : OkIn p) (hn : 1 ≤ n ∧ n ≤ 5) (hw : 0 ≤ who ∧ who < 7) (hH : HalfM m0 p L) (hB : BasM m0 p) (h41 : m0 12 0 41 = who) (h : ∀ x m2, FrM wBt m0 m2 → (x = 0 ∧ (bNx who p L n (fun _ => 0)).1 = 0 ∨ x = 1 ∧ (bNx who p L n (fun _ => 0)).1 = 1 ∧ ∀ j : Int, 0 ≤ j → j < n → m2 1338 0 j = (bNx who p L n (fun _ => 0)).2 j) → Q (some (vi x)) m2) : MtX yX12_findTouch cX12_findTouch 3 (some .boolean) (d + 8) [vr 12 0, vi n] m0 Q := by
  have h5 := p5_le hn.2
  have hw1 : who ≠ -1 := by omega
  have loop : ∀ (r i : Nat) (mm : AMem), i + r = 5 ^ n → FrM wBt m0 mm → fdS (wW who p L n) (dD n) r i (0, fun _ => 0) = bNx who p L n (fun _ => 0) → Y cX12_findTouch 3 RX12 (d + 8) none 2 [some (vr 12 0), some (vi n), some (vi i)] [] mm (fun r mem2 => rk (some .boolean) r ∧ Q r mem2) := by
    intro r
    induction r with
    | zero =>
      intro i mm hir hF hZ
      have hZ : ((0, fun _ => 0) : BsT) = bNx who p L n (fun _ => 0) := hZ
      exact sg_X12_findTouch_2 _ _ _ _ (cm_allMoves hn.2 ⟨_, rfl, fun _ => ⟨Or.inl rfl, h 0 mm hF (Or.inl ⟨rfl, by rw [← hZ]⟩)⟩, fun c => by omega⟩)
    | succ r ih =>
      intro i mm hir hF hZ
      rw [fdS_s] at hZ
      refine sg_X12_findTouch_2 _ _ _ _ (cm_allMoves hn.2 ⟨_, rfl, fun c => by omega, fun _ => ?_⟩)
      refine cm_layMoves hn.2 (by omega) fun m1 hF1 hD1 => ⟨rfl, ?_⟩
      have hFa : FrM wBt m0 m1 := FrM_trans hF (FrM_mono hF1 (by decide))
      refine cm_goMoves (mv := dg n i) hp hi hn.2 (HalfM_fr hFa (by decide) hH) (BasM_fr hFa (by decide) hB) hD1 fun m2 hF2 hR2 => ⟨rfl, ?_⟩
      have hFb : FrM wBt m0 m2 := FrM_trans hFa (FrM_mono hF2 (by decide))
      have hok : OkSt p (gmS p L n (dg n i)) := fin_ok hp hi
      have k41 : m2 12 0 41 = who := (hFb 12 0 41 (by decide)).trans h41
      have t01 := tb_01 hok.2.2.2.1.1 hok.2.2.2.1.2 hw.1 hw.2
      have eWi : wW who p L n i = if gmS p L n (dg n i) 26 = 1 ∧ tbt (gmS p L n (dg n i) 24) who = 1 then 1 else 0 := by unfold wW wV; rw [if_neg hw1]
      rw [hR2.2.2.2.2.1, hR2.2.2.2.2.2.1, k41, w32n (by omega)]
      have nx : wW who p L n i = 0 → Y cX12_findTouch 3 RX12 (d + 8) none 2 [some (vr 12 0), some (vi n), some (vi ((i + 1 : Nat) : Int))] [] m2 (fun r mem2 => rk (some .boolean) r ∧ Q r mem2) := by
        intro e
        rw [e, if_neg (by decide)] at hZ
        exact ih (i + 1) m2 (by omega) hFb hZ
      refine ⟨fun c => nx ?_, fun c => ⟨fun c2 => ?_, fun c2 => nx ?_⟩⟩
      · rw [eWi, if_neg (fun q => c q.1)]
      · have c2 : tbt (gmS p L n (dg n i) 24) who ≠ 0 := c2
        have e1 : wW who p L n i = 1 := by rw [eWi, if_pos ⟨c, by omega⟩]
        rw [e1, if_pos (by decide), fd_top (W := wW who p L n) (D := dD n) _ fun j _ _ => by
          have := gm_top (who := who) (L := L) (n := n) (mv := dg n j) hp hi
          unfold eW at this
          rw [if_neg hw1] at this
          exact this] at hZ
        refine cm_keepBest hn.2 fun m3 hF3 h40 hD3 => ⟨rfl, Or.inr rfl, h 1 m3 (FrM_trans hFb (FrM_mono hF3 (by decide))) (Or.inr ⟨rfl, by rw [← hZ], fun j j0 j1 => ?_⟩)⟩
        rw [← hZ, hD3 j j0 j1, FrM_n hF2 (by decide) (by decide), hD1 j j0 j1]
        exact (if_pos j1).symm
      · have c2 : tbt (gmS p L n (dg n i) 24) who = 0 := c2
        rw [eWi, if_neg (fun q => by omega)]
  have := loop (5 ^ n) 0 m0 (by omega) (FrM_refl _ _) (by unfold bNx iniW; rw [if_neg hw1])
  exact Y_met rfl 1 rfl (sg_X12_findTouch_0 _ _ _ this)
theorem cm_touchL {m0 : AMem} {who x y b : Int} (hp : OkPa p) (hi : OkIn p) (hw : 0 ≤ who ∧ who < 7) (hH : HalfM m0 p L) (hB : BasM m0 p) (h41 : m0 12 0 41 = who) (hT : tSp who p L x) (hy0 : x = 0 → y = -2) (hy : ∀ n : Nat, x = n → 0 < n → y = if 0 ≤ b then (if n ≤ b then -2 else (bNx who p L n (fun _ => 0)).2 b) else n) (h : ∀ m2, FrM wBt m0 m2 → Q (some (vi y)) m2) : Y cX12_touch 4 RX12 (d + 9) none 31 [some (vr 12 0), some (vi who), some (vi b), some (vi 1)] [] m0 (fun r mem2 => rk (some .int) r ∧ Q r mem2) := by
  have loop : ∀ (r k : Nat) (mm : AMem), k + r = 5 → FrM wBt m0 mm → (∀ n : Nat, x = n → 0 < n → k < n) → Y cX12_touch 4 RX12 (d + 9) none 31 [some (vr 12 0), some (vi who), some (vi b), some (vi ((k + 1 : Nat) : Int))] [] mm (fun r mem2 => rk (some .int) r ∧ Q r mem2) := by
    intro r
    induction r with
    | zero =>
      intro k mm hk hF hn
      have x0 : x = 0 := by
        rcases hT with q | ⟨n, hn5, hx, _⟩
        · exact q.1
        · have := hn n hx (by omega)
          omega
      refine sg_X12_touch_31 _ _ _ _ _ ⟨fun _ => ⟨trivial, ?_⟩, fun c => by omega⟩
      rw [← hy0 x0]
      exact h mm hF
    | succ r ih =>
      intro k mm hk hF hn
      refine sg_X12_touch_31 _ _ _ _ _ ⟨fun c => by omega, fun _ => ?_⟩
      refine cm_findT (n := k + 1) hp hi (by omega) hw (HalfM_fr hF (by decide) hH) (BasM_fr hF (by decide) hB) ((hF 12 0 41 (by decide)).trans h41) fun x4 m2 hF2 hx4 => ⟨x4, rfl, fun c => ?_, fun c => ?_⟩
      · have b0 : (bNx who p L (k + 1) (fun _ => 0)).1 = 0 := by
          rcases hx4 with q | q
          · exact q.2
          · omega
        rw [w32n (by omega)]
        refine ih (k + 1) m2 (by omega) (FrM_trans hF hF2) fun n hxn n0 => ?_
        have := hn n hxn n0
        rcases hT with q | ⟨n2, hn5, hx, h1, _⟩
        · omega
        · have e : n2 = n := by omega
          subst e
          by_cases e2 : n2 = k + 1
          · rw [e2] at h1
            have := h1 (fun _ => 0)
            omega
          · omega
      · obtain ⟨b1, bm⟩ : (bNx who p L (k + 1) (fun _ => 0)).1 = 1 ∧ ∀ j : Int, 0 ≤ j → j < ((k + 1 : Nat) : Int) → m2 1338 0 j = (bNx who p L (k + 1) (fun _ => 0)).2 j := by
          rcases hx4 with q | q
          · omega
          · exact q.2
        have hx : x = ((k + 1 : Nat) : Int) := by
          rcases hT with q | ⟨n2, hn5, hx, h1, hz⟩
          · have := q.2 (k + 1) (fun _ => 0) (by omega) (by omega)
            omega
          · have := hn n2 hx (by omega)
            by_cases e2 : n2 = k + 1
            · rw [hx, e2]
            · have := hz (k + 1) (fun _ => 0) (by omega) (by omega)
              omega
        have hy := hy (k + 1) hx (by omega)
        have hq := h m2 (FrM_trans hF hF2)
        rw [hy] at hq
        refine ⟨fun c0 => ⟨fun c1 => ⟨trivial, ?_⟩, fun c1 => ⟨by omega, trivial, ?_⟩⟩, fun c0 => ⟨trivial, ?_⟩⟩
        · rw [if_pos c0, if_pos c1] at hq; exact hq
        · rw [if_pos c0, if_neg c1, ← bm b c0 (by omega)] at hq; exact hq
        · rw [if_neg c0] at hq; exact hq
  exact loop 5 0 m0 (by decide) (FrM_refl _ _) fun n _ n0 => n0
theorem pr_touch {a b : Int} (hH : InvH m) (hL : LawC m L) (hM : LawM m L) (hS : InvSr m (pOf m) L)
    (hQ : ∀ x m1, MtX yX12_touch cX12_touch 4 (some .int) (d + 18) [vr 12 0, vi a, vi b] m1 (fun r m2 => r = some (vi x) ∧ InvSr m2 (pOf m) L ∧ FrM wBc m m2) → Q (some (vi x)) m1) : MtX yX11_touch cX11_touch 4 (some .int) (d + 18) [vr 11 0, vi a, vi b] m Q := by
  have hp := pOf_ok hH
  have hi := pOf_in hH
  have hHC := pOf_hc hH hL
  have hHM := pOf_hm hH hM
  have hBC := pOf_bc hH
  have hBM := pOf_bm hH
  have h1 := hH.1
  have h5 : ∀ i : Int, 0 ≤ i → i < m 12 0 1 → (m 1305 0 i = 0 ∨ m 1305 0 i = 1) ∧ tbt (m 2 0 4) i = m 1305 0 i := fun i i0 i1 => ⟨(hH.2.1 i i0 i1).2.2.2.1, (hH.2.1 i i0 i1).2.2.2.2⟩
  have bad : ¬ ((0 ≤ a ∧ a < m 12 0 1) ∧ m 1305 0 a = 1) ∨ ¬ -1 ≤ b → Q (some (vi (-1))) m := by
    intro g
    refine hQ _ _ (Y_met rfl 1 rfl (sg_X12_touch_0 _ _ _ _ (cm_isDefender ⟨h1.1, h1.2.1⟩ fun y hy => ⟨y, rfl, fun q => ⟨trivial, rfl, hS, FrM_refl _ _⟩, fun q => ⟨by omega, fun c => ⟨trivial, rfl, hS, FrM_refl _ _⟩, fun c => ⟨fun c2 => ?_, fun c2 => ⟨trivial, rfl, hS, FrM_refl _ _⟩⟩⟩⟩)))
    have := h5 a (by omega) (by omega)
    omega
  refine Y_met rfl 1 rfl (sg_X11_touch_0 _ _ _ _ (cc_isIn2 fun y hy => ⟨y, rfl, fun c => ⟨trivial, bad (Or.inl ?_)⟩, fun c => ⟨fun c2 => ?_, fun c2 => ⟨trivial, bad (Or.inr c2)⟩⟩⟩))
  · intro g
    have := h5 a (by omega) (by omega)
    omega
  · have ha : (0 ≤ a ∧ a < m 2 0 5) ∧ tbt (m 2 0 4) a = 1 := by
      rcases hy with q | q
      · exact q.2
      · exact absurd q.1 c
    have ha5 := h5 a (by omega) (by omega)
    refine cc_findTouch (L := L) hp hi (by omega) hHC hBC rfl hS fun x m2 hF hS2 hT hB2 => ⟨x, rfl, ?_⟩
    have run : ∀ y : Int, (x = 0 → y = -2) → (∀ n : Nat, x = n → 0 < n → y = if 0 ≤ b then (if n ≤ b then -2 else (bNx a (pOf m) L n (fun _ => 0)).2 b) else n) → Q (some (vi y)) m2 := by
      intro y hy0 hyn
      have e1 : m2 12 0 1 = m 12 0 1 := hF 12 0 1 (by decide)
      have e2 : m2 1305 0 a = m 1305 0 a := FrM_n hF (by decide) (by decide)
      refine hQ _ _ (Y_met rfl 1 rfl (sg_X12_touch_0 _ _ _ _ (cm_isDefender (by omega) fun y2 hy2 => ⟨y2, rfl, fun q => by omega, fun _ => ⟨by omega, fun q => by omega, fun _ => ⟨fun _ => ?_, fun q => absurd c2 q⟩⟩⟩)))
      have hF2 : FrM (5041 :: wSe) m (upM m2 12 0 41 a) := FrM_up (FrM_mono hF (by decide)) (by decide)
      refine cm_touchL (L := L) hp hi (by omega) (HalfM_fr hF2 (by decide) hHM) (BasM_fr hF2 (by decide) hBM) up_s hT hy0 hyn fun m3 hF3 => ⟨rfl, ?_, ?_⟩
      · exact InvSr_fr hF3 (by decide) (InvSr_fr (W := [5041]) (FrM_up (FrM_refl _ _) (by decide)) (by decide) hS2)
      · exact FrM_trans (FrM_mono hF2 (by decide)) (FrM_mono hF3 (by decide))
    refine ⟨fun c3 => ⟨trivial, run _ (fun _ => rfl) fun n hn n0 => by omega⟩, fun c3 => ⟨fun c4 => ⟨fun c5 => ⟨?_, trivial, ?_⟩, fun c5 => ⟨trivial, ?_⟩⟩, fun c4 => ⟨trivial, ?_⟩⟩⟩
    · rcases hT with q | ⟨n, hn5, hx, _⟩
      · exact absurd q.1 c3
      · omega
    · rcases hT with q | ⟨n, hn5, hx, hall, _⟩
      · exact absurd q.1 c3
      · obtain ⟨f, hf1, hf2⟩ := hB2 n hx (by omega)
        refine run _ (fun q => absurd q c3) fun n2 hn2 n0 => ?_
        have e : n2 = n := by omega
        subst e
        rw [if_pos c5, if_neg (by omega), hf2 b c5 (by omega)]
        have i1 := fd_ini (W := wW a (pOf m) L n2) (D := dD n2) (x := iniW a) (f := f) (g := fun _ => 0) (5 ^ n2) (i := 0)
        have gt : iniW a < (bNx a (pOf m) L n2 f).1 := by
          rw [hall f]
          unfold iniW
          rw [if_neg (by omega)]
          decide
        exact congrFun (i1.2 gt) b
    · exact run _ (fun q => absurd q c3) fun n2 hn2 n0 => by rw [if_neg c5, hn2]
    · refine run _ (fun q => absurd q c3) fun n2 hn2 n0 => ?_
      rw [if_pos (by omega), if_pos (by omega)]
end
