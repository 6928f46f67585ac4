/-! does, go -/
def wGo : List Nat := wRd ++ [2, 600, 1305, 1350]
theorem mlB_s {r k : Nat} {x th : Int} : mlB (r + 1) k x th = if th ≤ 0 then x else if tbt x k = 1 then mlB r (k + 1) x th else mlB r (k + 1) (or_32 x (shl32 1 k)) (th - 1) := rfl
theorem mlB_rg : ∀ (r : Nat) (k x th : Int), 0 ≤ k → k + r ≤ 7 → 0 ≤ x → x < 128 → (0 ≤ mlB r k x th ∧ mlB r k x th < 128) ∧ ∀ i : Int, k + r ≤ i → i < 7 → tbt (mlB r k x th) i = tbt x i := by
  intro r
  induction r with
  | zero => intro k x th h0 h1 h2 h3; exact ⟨⟨h2, h3⟩, fun _ _ _ => rfl⟩
  | succ r ih =>
    intro k x th h0 h1 h2 h3
    have e : mlB (r + 1) k x th = if th ≤ 0 then x else if tbt x k = 1 then mlB r (k + 1) x th else mlB r (k + 1) (or_32 x (shl32 1 k)) (th - 1) := rfl
    rw [e]
    split
    · exact ⟨⟨h2, h3⟩, fun _ _ _ => rfl⟩
    · split
      · have := ih (k + 1) x th (by omega) (by omega) h2 h3
        exact ⟨this.1, fun i g0 g1 => this.2 i (by omega) g1⟩
      · have ho := or_rg h2 h3 h0 (by omega)
        have := ih (k + 1) _ (th - 1) (by omega) (by omega) ho.1 ho.2
        refine ⟨this.1, fun i g0 g1 => ?_⟩
        rw [this.2 i (by omega) g1, tb_or h2 h3 h0 (by omega) (by omega) g1, if_neg (by omega)]
section
variable {d : Nat} {L : Option LnL} {m : AMem} {Q : Option AV → AMem → Prop}
set_option maxHeartbeats 1000000 in
theorem pr_does {a rc b : Int} (hr : ri rc) (hH : InvH m) (hL : LawC m L) (hM : LawM m L)
    (hQ : ∀ x m1, MtX yX12_does cX12_does 4 (some .int) (d + 6) [vr 12 0, vi a, vi rc, vi b] m1 (fun r m2 => r = some (vi x) ∧ FrM wRd m m2) → Q (some (vi x)) m1) : MtX yX11_does cX11_does 4 (some .int) (d + 6) [vr 11 0, vi a, vi rc, vi b] m Q := by
  have hp := pOf_ok hH
  have hi := pOf_in hH
  have hn := hp.1
  have hr2 := hr.2
  have hbm := pOf_bm hH
  have hN4 : m 12 0 1 = pOf m 10 := by rw [pOf_10]; exact hH.1.2.2.symm
  have bad : ¬ ((0 ≤ a ∧ a < pOf m 10) ∧ tbt (pOf m 11) a = 1 ∧ okCell rc 0 ∧ 0 ≤ b ∧ b ≤ 99) → Q (some (vi (-1))) m := by
    intro hb
    unfold okCell at hb
    have no : rk (some .int) (some (vi (-1))) ∧ some (vi (-1)) = some (vi (-1)) ∧ FrM wRd m m := ⟨trivial, rfl, FrM_refl _ _⟩
    refine hQ _ _ (Y_met rfl 0 rfl (sg_X12_does_0 _ _ _ _ _ (cm_isDefender (by omega) fun x hx => ⟨x, rfl, fun c => no, fun c => ⟨by omega, fun c2 => no, fun c2 => ⟨fun c3 => no, fun c3 => ?_⟩⟩⟩)))
    have h2 := (hbm.1 a (by omega) (by omega)).2.2
    have h3 := tb01 hp.2.2.1 hp.2.2.2 (i := a) (by omega) (by omega)
    rw [tdiv10 (by omega), tmod10 (by omega), w32i (z := rc / 10) (by omega) (by omega)]
    exact ⟨fun c4 => no, fun c4 => cm_isColumn fun y hy => ⟨y, rfl, fun c5 => no, fun c5 => cm_in fun z hz => ⟨z, rfl, fun c6 => by exfalso; omega, fun c6 => no⟩⟩⟩
  have hin2 : ∀ x : Int, (x = 1 ∧ (0 ≤ a ∧ a < m 2 0 5) ∧ tbt (m 2 0 4) a = 1 ∨ x = 0 ∧ ¬ ((0 ≤ a ∧ a < m 2 0 5) ∧ tbt (m 2 0 4) a = 1)) → (x = 1 ∧ (0 ≤ a ∧ a < pOf m 10) ∧ tbt (pOf m 11) a = 1 ∨ x = 0 ∧ ¬ ((0 ≤ a ∧ a < pOf m 10) ∧ tbt (pOf m 11) a = 1)) := fun x hx => hx
  refine Y_met rfl 0 rfl (sg_X11_does_0 _ _ _ _ _ (cc_isIn2 fun x hx => ⟨x, rfl, fun c => ⟨trivial, bad fun z => ?_⟩, fun c => cc_isCell hr (Or.inl rfl) fun y hy => ⟨y, rfl, fun c2 => ⟨trivial, bad fun z => ?_⟩, fun c2 => ⟨fun c3 => ⟨trivial, bad fun z => by omega⟩, fun c3 => ⟨fun c4 => ?_, fun c4 => ⟨trivial, bad fun z => by omega⟩⟩⟩⟩⟩))
  · rcases hin2 x hx with hx | hx
    · omega
    · exact hx.2 ⟨z.1, z.2.1⟩
  · rcases hy with hy | hy
    · omega
    · exact hy.2 z.2.2.1
  · have hx := hin2 x hx
    have ha : 0 ≤ a ∧ a < pOf m 10 := by
      rcases hx with hx | hx
      · exact hx.2.1
      · omega
    have ht : tbt (pOf m 11) a = 1 := by
      rcases hx with hx | hx
      · exact hx.2.2
      · omega
    have hcell : okCell rc 0 := by
      rcases hy with hy | hy
      · exact hy.2
      · omega
    unfold okCell at hcell
    have hHC := pOf_hc hH hL
    refine cc_begin (p := pOf m) hp (pOf_bc hH) fun m1 hF1 hR1 => ⟨rfl, ?_⟩
    rw [tdiv10 (by omega), tmod10 (by omega), w32i (z := rc / 10) (by omega) (by omega)]
    have hF2 : FrS [7, 800, 801] 0 m (upM (upM m1 7 0 4 (rc % 10)) 7 0 5 (rc / 10)) := FrS_u (FrS_u hF1 (by decide) (by decide)) (by decide) (by decide)
    have hF2' : FrS wSc 0 m (upM (upM m1 7 0 4 (rc % 10)) 7 0 5 (rc / 10)) := FrS_mono hF2 (by decide)
    have hR2 : RepC (upM (upM m1 7 0 4 (rc % 10)) 7 0 5 (rc / 10)) 0 (pOf m) (upS (upS (iniS (pOf m)) 20 (rc % 10)) 21 (rc / 10)) := RepC_u (q := 5) hn.2 (by decide) (RepC_u (q := 4) hn.2 (by decide) hR1)
    have hok : OkSt (pOf m) (upS (upS (iniS (pOf m)) 20 (rc % 10)) 21 (rc / 10)) := by
      have h := okS_ini hp hi
      refine okS_of hn.2 h (fun k hk => by rw [upS_n (by omega), upS_n (by omega)]) ?_ ?_ ?_ ?_
      · rw [upS_n (by decide), upS_s]; omega
      · rw [upS_s]; omega
      · rw [upS_n (by decide), upS_n (by decide)]; exact h.2.2.2.1
      · rw [upS_n (by decide), upS_n (by decide)]; exact h.2.2.2.2
    refine cc_choice hp (HalfC_S hF2' hHC) hR2 hok ha.1 ha.2 fun m3 hF3 => ⟨_, rfl, trivial, hQ _ _ ?_⟩
    have hF3' : FrS wSc 0 m m3 := FrS_trans hF2' (FrS_mono hF3 (by decide))
    have hM3 := FrS_M hF3'
    have h1 : m3 12 0 1 = pOf m 10 := by rw [hM3 12 0 1 (by decide)]; exact hN4
    have h5 : m3 1305 0 a = 1 := by rw [FrM_n hM3 (by decide) (by decide), (hbm.1 a ha.1 ha.2).2.2]; exact ht
    refine Y_met rfl 0 rfl (sg_X12_does_0 _ _ _ _ _ (cm_isDefender (by omega) fun u hu => ⟨u, rfl, fun c5 => by omega, fun c5 => ⟨by omega, fun c6 => by omega, fun c6 => ⟨fun c7 => by omega, fun c7 => ?_⟩⟩⟩))
    rw [tdiv10 (by omega), tmod10 (by omega), w32i (z := rc / 10) (by omega) (by omega)]
    refine ⟨fun c8 => by omega, fun c8 => cm_isColumn fun v hv => ⟨v, rfl, fun c9 => by omega, fun c9 => cm_in fun w hw => ⟨w, rfl, fun c10 => ?_, fun c10 => by omega⟩⟩⟩
    have hHM3 : HalfM m3 (pOf m) L := HalfM_fr hM3 (by decide) (pOf_hm hH hM)
    refine cm_begin hp hi hHM3.1 (BasM_fr hM3 (by decide) hbm) fun m4 hF4 hR4 h31 => ⟨rfl, ?_⟩
    have hR5 : RepM (upM (upM m4 12 0 30 (rc / 10)) 12 0 29 (rc % 10)) (pOf m) (upS (upS (iniS (pOf m)) 21 (rc / 10)) 20 (rc % 10)) := RepM_u (q := 29) (x := 20) hn.2 (by decide) (RepM_u (q := 30) (x := 21) hn.2 (by decide) hR4)
    have ecm : upS (upS (iniS (pOf m)) 21 (rc / 10)) 20 (rc % 10) = upS (upS (iniS (pOf m)) 20 (rc % 10)) 21 (rc / 10) := by
      funext k
      unfold upS
      by_cases e1 : k = 20
      · rw [if_pos e1, if_neg (by omega), if_pos e1]
      · rw [if_neg e1, if_neg e1]
    rw [ecm] at hR5
    have hF5 : FrM (5036 :: wMo) m3 (upM (upM m4 12 0 30 (rc / 10)) 12 0 29 (rc % 10)) := FrM_up (FrM_up hF4 (by decide)) (by decide)
    refine cm_choice hp (HalfM_fr hF5 (by decide) hHM3) hR5 hok ha.1 ha.2 fun m6 hF6 => ⟨_, rfl, trivial, rfl, ?_⟩
    exact FrM_trans (FrM_mono hM3 (by decide)) (FrM_trans (FrM_mono hF5 (by decide)) (FrM_mono hF6 (by decide)))
set_option maxHeartbeats 2000000 in
theorem pr_go {a : Int} (hI : InvS m) (hH : InvH m) (hMt : InvM m) (hL : LawC m L) (hM : LawM m L) (hst : 0 ≤ m 2 0 6 ∧ m 2 0 6 ≤ 100000)
    (hQ : ∀ x m1, MtX yX12_go cX12_go 4 (some .int) (d + 9) [vr 12 0, vi a] m1 (fun r m2 => r = some (vi x) ∧ InvH m2 ∧ InvM m2 ∧ FrM wGo m m2 ∧ (FrM wRd m m2 ∨ StB m m2)) → Q (some (vi x)) m1) : MtX yX11_go cX11_go 3 (some .int) (d + 9) [vr 11 0, vi a] m Q := by
  refine MtX_wf fun hwf _ => ?_
  have hp := pOf_ok hH
  have hi := pOf_in hH
  have hn := hp.1
  obtain ⟨q1, q2, q3⟩ := inv_h hH
  have e10 : hOf m 10 = pOf m 10 := rfl
  have e11 : hOf m 11 = pOf m 11 := rfl
  have hri4 : ri (m 1350 0 4) := hwf.1 _ _ _ rfl
  refine Y_met rfl 1 rfl (sg_X11_go_0 _ _ _ (cc_refB hI fun x hx => ⟨x, rfl, fun c => ?_, fun c => ⟨trivial, hQ _ _ ?_⟩⟩))
  · unfold RfB at hx
    have ha : 0 ≤ a ∧ a ≤ 5 := by omega
    have hb : m 1359 0 a = -2 := by omega
    have hHC := pOf_hc hH hL
    refine cc_think (p := pOf m) hp hi hI ha hHC (pOf_bc hH) fun m1 hF1 hR1 => ⟨rfl, ?_⟩
    have hok := fin_ok (L := L) (mv := mvSh m a) hp hi
    have h22 := fin_22 (L := L) (mv := mvSh m a) hp hi
    have hth := thS_rg (p := pOf m) (s := finS (pOf m) L (mvSh m a))
    have hpc := pcS_rg (p := pOf m)
    have hpt := ptS_rg hok
    have hrun : rnM (pOf m) L (mvSh m a) 60 (iniS (pOf m)) = finS (pOf m) L (mvSh m a) := fin_M hp hi
    generalize hS : finS (pOf m) L (mvSh m a) = S at *
    generalize hTh : thS (pOf m) S = th at *
    generalize hPt : ptS S = pt at *
    have hM1 := FrS_M hF1
    have h11 : m1 2 0 4 = pOf m 11 := by rw [FrM_n hM1 (by decide) (by decide)]; rfl
    have hHC1 := HalfC_S hF1 hHC
    have f60 : ∀ i, m1 600 0 i = m 600 0 i := fun i => FrM_n hM1 (by decide) (by decide)
    have hc1 := hcR_fr hM1 (by decide) q1
    -- who is in behind the raid
    generalize hx0 : (if S 26 = 1 then mnB (pOf m 11) (S 24) else pOf m 11) = x0
    have hx0r : 0 ≤ x0 ∧ x0 < 128 := by
      rw [← hx0]
      split
      · exact mn_rg hp.2.2.1 hp.2.2.2 hok.2.2.2.1.1 hok.2.2.2.1.2
      · exact hp.2.2
    have hx0b : ∀ i : Int, 0 ≤ i → i < 7 → tbt x0 i = if S 26 = 1 ∧ tbt (S 24) i = 1 then 0 else tbt (pOf m 11) i := by
      intro i g0 g1
      rw [← hx0]
      by_cases c1 : S 26 = 1
      · rw [if_pos c1, tb_mn hp.2.2.1 hp.2.2.2 hok.2.2.2.1.1 hok.2.2.2.1.2 g0 g1]
        by_cases c2 : tbt (S 24) i = 1
        · rw [if_pos c2, if_pos ⟨c1, c2⟩]
        · rw [if_neg c2, if_neg (fun z => c2 z.2)]
      · rw [if_neg c1, if_neg (fun z => c1 z.1)]
    obtain ⟨hN1, hN2⟩ := N_le hp
    have hml := ml_lw (n := (pOf m 10).toNat) hN1 hx0r.1 hx0r.2
    rw [hN2] at hml
    have hmr := mlB_rg (pOf m 10).toNat 0 x0 th (by decide) (by omega) hx0r.1 hx0r.2
    generalize hB : mlB (pOf m 10).toNat 0 x0 th = B at *
    have hBz : ∀ i : Int, pOf m 10 ≤ i → i < 7 → tbt B i = 0 := by
      intro i g0 g1
      rw [hmr.2 i (by omega) g1, hx0b i (by omega) g1]
      have := hi.2.2.2 i g0 g1
      split
      · rfl
      · exact this
    have hBl : (th = 0 → B = x0) ∧ (th = 1 → B = lwBt (pOf m 10) x0) ∧ (th = 2 → B = lwBt (pOf m 10) (lwBt (pOf m 10) x0)) := by
      refine ⟨fun e => ?_, fun e => ?_, fun e => ?_⟩
      · rw [← hB, e]; exact hml.1
      · rw [← hB, e]; exact hml.2.1
      · rw [← hB, e]; exact hml.2.2
    -- the reference, once the class has entered it
    have ref : ∀ m2 : AMem, FrM (wSc ++ [2, 600]) m m2 → hcR m2 (upS (hOf m) 11 B) → m2 2 0 6 = m 2 0 6 + 1 → m2 2 0 7 = m 2 0 7 → m2 600 0 0 = w32 (m 600 0 0 + 1) → m2 600 0 1 = w32 (m 600 0 1 + pt) → m2 600 0 2 = w32 (m 600 0 2 + th) → m2 600 0 3 = w32 (m 600 0 3 + S 22) → m2 600 0 4 = w32 (m 600 0 4 + if S 26 = 2 then 1 else 0) → Q (some (vi (S 26))) m2 := by
      intro m2 hF2 hR2 h6 h7 l0 l1 l2 l3 l4
      have hb2 : m2 1359 0 a = -2 := by rw [FrM_n hF2 (by decide) (by decide)]; exact hb
      have hHM2 : HalfM m2 (pOf m) L := HalfM_fr hF2 (by decide) (pOf_hm hH hM)
      have g50 : ∀ i, m2 1350 0 i = m 1350 0 i := fun i => FrM_n hF2 (by decide) (by decide)
      refine hQ _ _ (Y_met rfl 2 rfl (sg_X12_go_0 _ _ _ (cm_isShelf fun y hy => ⟨y, rfl, fun c2 => cm_rowF ha fun v hv => ⟨v, rfl, fun c3 => ?_, fun c3 => by unfold RfB at hv; omega⟩, fun c2 => by omega⟩)))
      refine cm_raidS (most := 60) hp hi (by decide) hI ha hb hF2 (by decide) hHM2 (BasM_fr hF2 (by decide) (pOf_bm hH)) fun m3 hF3 hR3 h31 => ⟨rfl, ?_⟩
      rw [hrun] at hR3 h31
      have hHM3 : HalfM m3 (pOf m) L := HalfM_fr hF3 (by decide) hHM2
      have g503 : ∀ i, m3 1350 0 i = m 1350 0 i := fun i => by rw [FrM_n hF3 (by decide) (by decide)]; exact g50 i
      refine cm_ths hp hHM3 hR3 ⟨_, rfl, by decide, by decide, by decide, ?_⟩
      rw [hTh, g503, g503]
      have hR3' : RepM (upM m3 1350 0 0 (w32 (m 1350 0 0 + 1))) (pOf m) S := RepM_fr (W := [1350]) (FrM_uk (FrM_refl _ _) (by decide) (by decide)) (by decide) hR3
      refine cm_pts hR3' hok ⟨_, rfl, by decide, by decide, by decide, by decide, by decide, ?_⟩
      rw [hPt]
      have s32 : upM m3 1350 0 0 (w32 (m 1350 0 0 + 1)) 12 0 32 = S 26 := hR3.2.2.2.2.1
      have s31 : upM m3 1350 0 0 (w32 (m 1350 0 0 + 1)) 12 0 31 = S 22 := h31
      rw [s32, s31, up_i (by decide), up_i (by decide), up_i (by decide), g503, g503, g503]
      -- what follows the scores
      have hq2 := hmR_fr hF3 (by decide) (hmR_fr hF2 (by decide) q2)
      have rest : ∀ mm : AMem, FrM [1350] m3 mm → mm 1350 0 0 = w32 (m 1350 0 0 + 1) → mm 1350 0 1 = w32 (m 1350 0 1 + pt) → mm 1350 0 2 = w32 (m 1350 0 2 + th) → mm 1350 0 3 = w32 (m 1350 0 3 + S 22) → mm 1350 0 4 = w32 (m 1350 0 4 + if S 26 = 2 then 1 else 0) → Y cX12_go 4 RX12 (d + 9) none 101 [some (vr 12 0), some (vi a), some (vi th), some (vi 0)] [] mm (fun r mem2 => rk (some .int) r ∧ r = some (vi (S 26)) ∧ InvH mem2 ∧ InvM mem2 ∧ FrM wGo m mem2 ∧ (FrM wRd m mem2 ∨ StB m mem2)) := by
        intro mm hFm p0 p1 p2 p3 p4
        have hqm := hmR_fr hFm (by decide) hq2
        have fin : ∀ m4 : AMem, FrM [1305] mm m4 → (∀ i : Int, 0 ≤ i → i < pOf m 10 → m4 1305 0 i = tbt B i) → rk (some .int) (some (vi (m4 12 0 32))) ∧ some (vi (m4 12 0 32)) = some (vi (S 26)) ∧ InvH m4 ∧ InvM m4 ∧ FrM wGo m m4 ∧ (FrM wRd m m4 ∨ StB m m4) := by
          intro m4 hF4 h5
          have hall : FrM wGo m m4 := FrM_trans (FrM_mono hF2 (by decide)) (FrM_trans (FrM_mono hF3 (by decide)) (FrM_trans (FrM_mono hFm (by decide)) (FrM_mono hF4 (by decide))))
          have h2m4 : FrM (1305 :: 1350 :: 5036 :: wMo) m2 m4 := FrM_trans (FrM_mono hF3 (by decide)) (FrM_trans (FrM_mono hFm (by decide)) (FrM_mono hF4 (by decide)))
          refine ⟨trivial, ?_, ?_, ?_, hall, Or.inr ⟨?_, ?_, ?_⟩⟩
          · rw [hF4 12 0 32 (by decide), hFm 12 0 32 (by decide), hR3.2.2.2.2.1]
          · refine h_inv (hcR_fr h2m4 (by decide) hR2) ?_ (hIn_ok q3 hmr.1 hBz)
            exact hmR_1305 q3 hqm hF4 h5
          · have k50 : ∀ i, m4 1350 0 i = mm 1350 0 i := fun i => FrM_n hF4 (by decide) (by decide)
            have k60 : ∀ i, m4 600 0 i = m2 600 0 i := fun i => FrM_n h2m4 (by decide) (by decide)
            have kk : ∀ k i, k ∈ [5, 601, 1353, 1354] → m4 k 0 i = m k 0 i := fun k i hk => by
              simp at hk
              rcases hk with rfl | rfl | rfl | rfl <;> exact FrM_n hall (by decide) (by decide)
            have e5 : ∀ i, m4 5 0 i = m 5 0 i := fun i => kk _ i (by decide)
            have e601 : ∀ i, m4 601 0 i = m 601 0 i := fun i => kk _ i (by decide)
            have e53 : ∀ i, m4 1353 0 i = m 1353 0 i := fun i => kk _ i (by decide)
            have e54 : ∀ i, m4 1354 0 i = m 1354 0 i := fun i => kk _ i (by decide)
            have e1 : m4 12 0 1 = m 12 0 1 := hall 12 0 1 (by decide)
            have e51 : m4 12 0 51 = m 12 0 51 := hall 12 0 51 (by decide)
            have e52 : m4 12 0 52 = m 12 0 52 := hall 12 0 52 (by decide)
            obtain ⟨i1, i2⟩ := hMt
            unfold InvM
            simp only [e5, e601, e53, e54, e1, e51, e52]
            refine ⟨fun i g0 g1 => ?_, i2⟩
            rw [k50, k60]
            have e : i = 0 ∨ i = 1 ∨ i = 2 ∨ i = 3 ∨ i = 4 := by omega
            rcases e with rfl | rfl | rfl | rfl | rfl
            · rw [l0, p0, i1 0 (by decide) (by decide)]
            · rw [l1, p1, i1 1 (by decide) (by decide)]
            · rw [l2, p2, i1 2 (by decide) (by decide)]
            · rw [l3, p3, i1 3 (by decide) (by decide)]
            · rw [l4, p4, i1 4 (by decide) (by decide)]
          · rw [FrM_n h2m4 (by decide) (by decide), h6]; omega
          · rw [FrM_n h2m4 (by decide) (by decide), h6]; omega
          · rw [FrM_n h2m4 (by decide) (by decide), h7]
        have s26 : ∀ m4, FrM [1305] mm m4 → m4 12 0 32 = S 26 := fun m4 hF4 => by rw [hF4 12 0 32 (by decide), hFm 12 0 32 (by decide), hR3.2.2.2.2.1]
        have s24 : ∀ m4, FrM [1305] mm m4 → m4 12 0 33 = S 24 := fun m4 hF4 => by rw [hF4 12 0 33 (by decide), hFm 12 0 33 (by decide), hR3.2.2.2.2.2.1]
        have s1 : ∀ m4, FrM [1305] mm m4 → m4 12 0 1 = pOf m 10 := fun m4 hF4 => by rw [hF4 12 0 1 (by decide)]; exact hqm.1
        -- those come in
        have come : ∀ (r k : Nat) (x t : Int) (m4 : AMem), ((k + r : Nat) : Int) = pOf m 10 → FrM [1305] mm m4 → (∀ i : Int, 0 ≤ i → i < pOf m 10 → m4 1305 0 i = tbt x i) → (0 ≤ x ∧ x < 128) → t ≤ 10 → -10 ≤ t → mlB r k x t = B → Y cX12_go 4 RX12 (d + 9) none 144 [some (vr 12 0), some (vi a), some (vi t), some (vi k)] [] m4 (fun r mem2 => rk (some .int) r ∧ r = some (vi (S 26)) ∧ InvH mem2 ∧ InvM mem2 ∧ FrM wGo m mem2 ∧ (FrM wRd m mem2 ∨ StB m mem2)) := by
          intro r
          induction r with
          | zero =>
            intro k x t m4 hk hF4 h5 hxr ht1 ht2 he
            have he : x = B := he
            refine sg_X12_go_144 _ _ _ _ _ ⟨fun _ => fin m4 hF4 (by rw [← he]; exact h5), fun c => by rw [s1 m4 hF4] at c; omega⟩
          | succ r ih =>
            intro k x t m4 hk hF4 h5 hxr ht1 ht2 he
            rw [mlB_s] at he
            have t01 := tb01 hxr.1 hxr.2 (i := k) (by omega) (by omega)
            refine sg_X12_go_144 _ _ _ _ _ ⟨fun c => by rw [s1 m4 hF4] at c; omega, fun _ => ⟨fun c => ?_, fun c => ⟨by omega, ?_⟩⟩⟩
            · rw [if_pos c] at he
              exact fin m4 hF4 (by rw [← he]; exact h5)
            · rw [if_neg c] at he
              rw [h5 k (by omega) (by omega), w32n (by omega), w32i (z := t + -1) (by omega) (by omega)]
              refine ⟨fun c2 => ⟨by omega, ?_⟩, fun c2 => ?_⟩
              · rw [if_neg c2] at he
                have ho := or_rg hxr.1 hxr.2 (i := k) (by omega) (by omega)
                refine ih (k + 1) (or_32 x (shl32 1 k)) (t + -1) _ (by omega) (FrM_uk hF4 (by decide) (by decide)) (fun i g0 g1 => ?_) ho (by omega) (by omega) he
                rw [up_eq, tb_or hxr.1 hxr.2 (by omega) (by omega) g0 (by omega)]
                by_cases e : i = k
                · rw [if_pos e, if_pos e]
                · rw [if_neg e, if_neg e]; exact h5 i g0 g1
              · rw [if_pos c2] at he
                exact ih (k + 1) x t m4 (by omega) hF4 h5 hxr ht1 ht2 he
        have come0 : ∀ m4 : AMem, FrM [1305] mm m4 → (∀ i : Int, 0 ≤ i → i < pOf m 10 → m4 1305 0 i = tbt x0 i) → Y cX12_go 4 RX12 (d + 9) none 144 [some (vr 12 0), some (vi a), some (vi th), some (vi 0)] [] m4 (fun r mem2 => rk (some .int) r ∧ r = some (vi (S 26)) ∧ InvH mem2 ∧ InvM mem2 ∧ FrM wGo m mem2 ∧ (FrM wRd m mem2 ∨ StB m mem2)) := fun m4 hF4 h5 => come (pOf m 10).toNat 0 x0 th m4 (by omega) hF4 h5 hx0r (by omega) (by omega) hB
        have h5m : ∀ i : Int, 0 ≤ i → i < pOf m 10 → mm 1305 0 i = tbt (pOf m 11) i := fun i g0 g1 => (hqm.2.1 i g0 g1).2.2.2
        have out : ∀ (r k : Nat) (m4 : AMem), ((k + r : Nat) : Int) = pOf m 10 → FrM [1305] mm m4 → (∀ i : Int, 0 ≤ i → i < pOf m 10 → m4 1305 0 i = if i < k then tbt x0 i else tbt (pOf m 11) i) → Y cX12_go 4 RX12 (d + 9) none 101 [some (vr 12 0), some (vi a), some (vi th), some (vi k)] [] m4 (fun r mem2 => rk (some .int) r ∧ r = some (vi (S 26)) ∧ InvH mem2 ∧ InvM mem2 ∧ FrM wGo m mem2 ∧ (FrM wRd m mem2 ∨ StB m mem2)) := by
          intro r
          induction r with
          | zero =>
            intro k m4 hk hF4 h5
            refine sg_X12_go_101 _ _ _ _ _ ⟨fun _ => come0 m4 hF4 fun i g0 g1 => by rw [h5 i g0 g1, if_pos (by omega)], fun c => by rw [s1 m4 hF4] at c; omega⟩
          | succ r ih =>
            intro k m4 hk hF4 h5
            refine sg_X12_go_101 _ _ _ _ _ ⟨fun c => by rw [s1 m4 hF4] at c; omega, fun _ => ?_⟩
            rw [s26 m4 hF4, s24 m4 hF4, w32n (by omega)]
            refine ⟨fun c2 => come0 m4 hF4 fun i g0 g1 => ?_, fun c2 => ?_⟩
            · have e0 := hx0b i g0 (by omega)
              rw [if_neg (fun z => c2 z.1)] at e0
              rw [h5 i g0 g1]
              split
              · rfl
              · exact e0.symm
            · have eb := hx0b k (by omega) (by omega)
              refine ⟨fun c3 => ih (k + 1) m4 (by omega) hF4 fun i g0 g1 => ?_, fun c3 => ⟨by omega, ih (k + 1) _ (by omega) (FrM_uk hF4 (by decide) (by decide)) fun i g0 g1 => ?_⟩⟩
              · have c3 : ¬ tbt (S 24) k = 1 := c3
                rw [if_neg (fun z => c3 z.2)] at eb
                rw [h5 i g0 g1]
                by_cases e : i = k
                · rw [if_neg (by omega), if_pos (by omega), e, eb]
                · by_cases e2 : i < k
                  · rw [if_pos e2, if_pos (by omega)]
                  · rw [if_neg e2, if_neg (by omega)]
              · have c3 : tbt (S 24) k = 1 := c3
                rw [if_pos ⟨c2, c3⟩] at eb
                rw [up_eq]
                by_cases e : i = k
                · rw [if_pos e, if_pos (by omega), e, eb]
                · rw [if_neg e, h5 i g0 g1]
                  by_cases e2 : i < k
                  · rw [if_pos e2, if_pos (by omega)]
                  · rw [if_neg e2, if_neg (by omega)]
        have := out (pOf m 10).toNat 0 mm (by omega) (FrM_refl _ _) (fun i g0 g1 => by rw [if_neg (by omega)]; exact h5m i g0 g1)
        exact this
      refine ⟨fun c4 => rest _ ?_ ?_ ?_ ?_ ?_ ?_, fun c4 => ⟨by decide, by decide, rest _ ?_ ?_ ?_ ?_ ?_ ?_⟩⟩
      · exact FrM_uk (FrM_uk (FrM_uk (FrM_uk (FrM_refl _ _) (by decide) (by decide)) (by decide) (by decide)) (by decide) (by decide)) (by decide) (by decide)
      · simp [upM]
      · simp [upM]
      · simp [upM]
      · simp [upM]
      · rw [if_neg c4, Int.add_zero, w32i hri4.1 hri4.2]
        simp [upM, g503]
      · exact FrM_uk (FrM_uk (FrM_uk (FrM_uk (FrM_uk (FrM_refl _ _) (by decide) (by decide)) (by decide) (by decide)) (by decide) (by decide)) (by decide) (by decide)) (by decide) (by decide)
      · simp [upM]
      · simp [upM]
      · simp [upM]
      · simp [upM]
      · rw [if_pos c4]
        simp [upM, g503]
    -- the class enters it
    refine Y_met rfl 4 rfl (sg_X5_enter_0 _ _ _ (cc_ths hp hHC1 h11 hR1 ⟨_, rfl, by decide, by decide, by decide, ?_⟩))
    rw [hTh, f60, f60]
    have hR1' : RepC (upM m1 600 0 0 (w32 (m 600 0 0 + 1))) 0 (pOf m) S := RepC_fr (fun k i hk => by rcases hk with rfl | rfl | rfl <;> rfl) hR1
    refine cc_pts hR1' hok ⟨_, rfl, by decide, by decide, by decide, by decide, by decide, by decide, ?_⟩
    rw [hPt]
    have s13 : upM m1 600 0 0 (w32 (m 600 0 0 + 1)) 7 0 13 = S 26 := hR1.2.2.2.2.2.2.2.2.2
    have s8 : upM m1 600 0 0 (w32 (m 600 0 0 + 1)) 7 0 8 = S 22 := hR1.2.2.2.2.1
    have s10 : upM m1 600 0 0 (w32 (m 600 0 0 + 1)) 7 0 10 = S 24 := hR1.2.2.2.2.2.2.1
    have s4 : upM m1 600 0 0 (w32 (m 600 0 0 + 1)) 2 0 4 = pOf m 11 := h11
    rw [s13, s8, s10, s4, up_i (by decide), up_i (by decide), up_i (by decide), f60, f60, f60]
    have rest : ∀ mm : AMem, FrM [600] m1 mm → mm 600 0 0 = w32 (m 600 0 0 + 1) → mm 600 0 1 = w32 (m 600 0 1 + pt) → mm 600 0 2 = w32 (m 600 0 2 + th) → mm 600 0 3 = w32 (m 600 0 3 + S 22) → mm 600 0 4 = w32 (m 600 0 4 + if S 26 = 2 then 1 else 0) → Y cX5_enter 7 RX5 (d + 8) none 105 [some (vr 5 0), some (vr 7 0), some (vr 2 0), some (vi th), some (vi x0), some (vi 0), none] [] mm (fun r m2 => rk none r ∧ r = none ∧ (rk (some .int) (some (vi (m2 7 0 13))) ∧ Q (some (vi (m2 7 0 13))) m2)) := by
      intro mm hFm p0 p1 p2 p3 p4
      have hcm := hcR_fr hFm (by decide) hc1
      have hmm6 : mm 2 0 6 = m 2 0 6 := by rw [FrM_n hFm (by decide) (by decide), FrM_n hM1 (by decide) (by decide)]
      have hmm7 : mm 2 0 7 = m 2 0 7 := by rw [FrM_n hFm (by decide) (by decide), FrM_n hM1 (by decide) (by decide)]
      have fin : MtX yX2_letIn cX2_letIn 2 none (d + 7) [vr 2 0, vi B] mm (fun r m2 => r = none ∧ (rk none none ∧ none = (none : Option AV) ∧ (rk (some .int) (some (vi (m2 7 0 13))) ∧ Q (some (vi (m2 7 0 13))) m2))) := by
        refine cc_letIn q3 hcm (by rw [hmm6]; omega) fun m2 hF2 hR2 h6 h7 => ⟨rfl, trivial, rfl, trivial, ?_⟩
        have e26 : m2 7 0 13 = S 26 := by rw [FrM_n hF2 (by decide) (by decide), FrM_n hFm (by decide) (by decide)]; exact hR1.2.2.2.2.2.2.2.2.2
        rw [e26]
        have k60 : ∀ i, m2 600 0 i = mm 600 0 i := fun i => FrM_n hF2 (by decide) (by decide)
        exact ref m2 (FrM_trans (FrM_mono hM1 (by decide)) (FrM_trans (FrM_mono hFm (by decide)) (FrM_mono hF2 (by decide)))) hR2 (by rw [h6, hmm6]) (by rw [h7, hmm7]) (by rw [k60]; exact p0) (by rw [k60]; exact p1) (by rw [k60]; exact p2) (by rw [k60]; exact p3) (by rw [k60]; exact p4)
      have stop : ∀ (x : Int) (k : Int), th ≤ k → x = B → Y cX5_enter 7 RX5 (d + 8) none 105 [some (vr 5 0), some (vr 7 0), some (vr 2 0), some (vi th), some (vi x), some (vi k), none] [] mm (fun r m2 => rk none r ∧ r = none ∧ (rk (some .int) (some (vi (m2 7 0 13))) ∧ Q (some (vi (m2 7 0 13))) m2)) := by
        intro x k hk hxB
        subst hxB
        exact sg_X5_enter_105 _ _ _ _ _ _ ⟨fun _ => fin, fun c => by omega⟩
      have next : ∀ (x : Int) (k : Int), ¬ th ≤ k → 0 ≤ k → k < 10 → Y cX5_enter 7 RX5 (d + 8) none 105 [some (vr 5 0), some (vr 7 0), some (vr 2 0), some (vi th), some (vi (lwBt (pOf m 10) x)), some (vi (k + 1)), none] [] mm (fun r m2 => rk none r ∧ r = none ∧ (rk (some .int) (some (vi (m2 7 0 13))) ∧ Q (some (vi (m2 7 0 13))) m2)) → Y cX5_enter 7 RX5 (d + 8) none 105 [some (vr 5 0), some (vr 7 0), some (vr 2 0), some (vi th), some (vi x), some (vi k), none] [] mm (fun r m2 => rk none r ∧ r = none ∧ (rk (some .int) (some (vi (m2 7 0 13))) ∧ Q (some (vi (m2 7 0 13))) m2)) := by
        intro x k hk h0 h9 hnx
        refine sg_X5_enter_105 _ _ _ _ _ _ ⟨fun c => absurd c hk, fun _ => cc_everyb hcm ⟨_, rfl, ?_⟩⟩
        rw [w32i (z := k + 1) (by omega) (by omega)]
        exact Y_fg (by exact ⟨rfl, rfl, rfl, rfl, rfl, rfl, trivial⟩) hnx
      have e012 : th = 0 ∨ th = 1 ∨ th = 2 := by omega
      rcases e012 with e | e | e
      · exact stop x0 0 (by omega) (hBl.1 e).symm
      · exact next x0 0 (by omega) (by omega) (by omega) (stop _ (0 + 1) (by omega) (hBl.2.1 e).symm)
      · exact next x0 0 (by omega) (by omega) (by omega) (next _ (0 + 1) (by omega) (by omega) (by omega) (stop _ (0 + 1 + 1) (by omega) (hBl.2.2 e).symm))
    have hFr : ∀ v1 v2 v3 v4, FrM [600] m1 (upM (upM (upM (upM (upM m1 600 0 0 (w32 (m 600 0 0 + 1))) 600 0 1 v1) 600 0 2 v2) 600 0 3 v3) 600 0 4 v4) := fun v1 v2 v3 v4 => FrM_uk (FrM_uk (FrM_uk (FrM_uk (FrM_uk (FrM_refl _ _) (by decide) (by decide)) (by decide) (by decide)) (by decide) (by decide)) (by decide) (by decide)) (by decide) (by decide)
    refine ⟨fun c2 => ⟨by decide, fun c3 => ?_, fun c3 => ?_⟩, fun c2 => ⟨by decide, fun c3 => ?_, fun c3 => by omega⟩⟩
    · have e0 : x0 = pOf m 11 := by rw [← hx0, if_neg c3]
      rw [← e0]
      exact rest _ (hFr _ _ _ _) (by simp [upM]) (by simp [upM]) (by simp [upM]) (by simp [upM]) (by rw [if_neg c2]; simp [upM, f60])
    · have e0 : x0 = mnB (pOf m 11) (S 24) := by rw [← hx0, if_pos c3]
      have e00 : an32 (pOf m 11) (xo32 (S 24) (-1)) = x0 := e0.symm
      rw [e00]
      exact rest _ (hFr _ _ _ _) (by simp [upM]) (by simp [upM]) (by simp [upM]) (by simp [upM]) (by rw [if_neg c2]; simp [upM, f60])
    · have e0 : x0 = pOf m 11 := by rw [← hx0, if_neg c3]
      rw [← e0]
      exact rest _ (hFr _ _ _ _) (by simp [upM]) (by simp [upM]) (by simp [upM]) (by simp [upM]) (by rw [if_pos c2]; simp [upM, f60])
  · have no : ∀ y : Int, y = x → rk (some .int) (some (vi y)) ∧ some (vi y) = some (vi x) ∧ InvH m ∧ InvM m ∧ FrM wGo m m ∧ (FrM wRd m m ∨ StB m m) := fun y hy => ⟨trivial, by rw [hy], hH, hMt, FrM_refl _ _, Or.inl (FrM_refl _ _)⟩
    refine Y_met rfl 2 rfl (sg_X12_go_0 _ _ _ (cm_isShelf fun y hy => ⟨y, rfl, fun c2 => ?_, fun c2 => ?_⟩))
    · refine cm_rowF (by omega) fun w hw => ⟨w, rfl, fun c4 => by unfold RfB at hx hw; omega, fun c4 => cm_rowF (by omega) fun w2 hw2 => ⟨w2, rfl, no w2 (by unfold RfB at hx hw2; omega)⟩⟩
    · exact no _ (by unfold RfB at hx; omega)
end
