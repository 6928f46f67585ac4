/-! odds of the reference -/
section
variable {d : Nat} {o : StR} {th : Int} {Q : Option AV → AMem → Prop}
def wOd : List Nat := [1342, 1343, 5044]
def tbO (m : AMem) (c : Nat) (f : Int → Int → Int) (B : Int) : Prop := ∀ e v : Int, 0 ≤ e → e ≤ 2 → -B ≤ v → v ≤ B → m c 0 (143 * e + v + 71) = f v e
def dnT (m : AMem) (f : Int → Int → Int) (B e v : Int) : Prop := ∀ x w : Int, 0 ≤ x → x ≤ 2 → -B ≤ w → w ≤ B → (x < e ∨ (x = e ∧ w < v)) → m 1342 0 (143 * x + w + 71) = f w x
theorem dnT_0 {m : AMem} {f : Int → Int → Int} {B : Int} : dnT m f B 0 (-B) := fun x w x0 x1 w0 w1 c => by omega
theorem dnT_e {m : AMem} {f : Int → Int → Int} {B e v : Int} (h : dnT m f B e v) (hv : B < v) : dnT m f B (e + 1) (-B) := fun x w x0 x1 w0 w1 c => h x w x0 x1 w0 w1 (by omega)
theorem dnT_c {m m2 : AMem} {f : Int → Int → Int} {B e v : Int} (h : dnT m f B e v) (hm : ∀ i, m2 1342 0 i = m 1342 0 i) : dnT m2 f B e v := fun x w x0 x1 w0 w1 c => by rw [hm]; exact h x w x0 x1 w0 w1 c
theorem dnT_u {m : AMem} {f : Int → Int → Int} {B e v z : Int} (h : dnT m f B e v) (hB : B ≤ 71) (hv : -B ≤ v ∧ v ≤ B) (he : 0 ≤ e ∧ e ≤ 2) (hz : z = f v e) : dnT (upM m 1342 0 (143 * e + v + 71) z) f B e (v + 1) := by
  intro x w x0 x1 w0 w1 c
  rw [up_eq]
  by_cases q : x = e ∧ w = v
  · rw [if_pos (by omega), q.1, q.2, hz]
  · rw [if_neg (by omega)]
    exact h x w x0 x1 w0 w1 (by omega)
theorem dnT_t {m m2 : AMem} {f : Int → Int → Int} {B v : Int} (h : dnT m f B 3 v) (hB : B ≤ 71) (hc : ∀ q : Int, 0 ≤ q → q < 429 → m2 1343 0 q = m 1342 0 q) : tbO m2 1343 f B := fun e v e0 e1 v0 v1 => by rw [hc _ (by omega) (by omega)]; exact h e v e0 e1 v0 v1 (by omega)
def tdO (m : AMem) (o : StR) : Prop := m 1306 0 5 = o 9 ∧ m 1306 0 6 = o 10 ∧ m 1306 0 7 = o 11 ∧ m 1306 0 8 = o 12 ∧ m 1306 0 9 = o 13
theorem cm_thenAt {m : AMem} {f : Int → Int → Int} {B v e : Int} (hB : B ≤ 71) (hT : tbO m 1343 f B) (hv : -B ≤ v ∧ v ≤ B) (he : 0 ≤ e ∧ e ≤ 2) (h : Q (some (vi (f v e))) m) : MtX yX12_thenAt cX12_thenAt 3 (some .int) (d + 1) [vr 12 0, vi v, vi e] m Q := by
  refine Y_met rfl 0 rfl (sg_X12_thenAt_0 _ _ _ _ ?_)
  rw [w32i (z := 143 * e) (by omega) (by omega), w32i (z := 143 * e + v) (by omega) (by omega), w32i (z := 143 * e + v + 71) (by omega) (by omega), hT e v he.1 he.2 hv.1 hv.2]
  exact ⟨by omega, trivial, h⟩
theorem cm_wayOf {m : AMem} {k : Nat} {v e w l B : Int} (ho : oOk o) (hB : B ≤ 71) (hT : tbO m 1343 (oG o th k) B) (hw : 0 ≤ w ∧ w ≤ 12) (hl : 0 ≤ l ∧ l ≤ 12) (hv : -B ≤ v - 1 ∧ v + 1 ≤ B) (he : 0 ≤ e ∧ e ≤ 2) (h : Q (some (vi (od3 w l (oG o th k (v + 1) 0) (oG o th k (v - 1) 0) (oE o th k v e)))) m) : MtX yX12_wayOf cX12_wayOf 8 (some .int) (d + 2) [vr 12 0, vi w, vi l, vi v, vi e, vi th] m Q := by
  refine Y_met rfl 2 rfl (sg_X12_wayOf_0 _ _ _ _ _ _ _ ?_)
  rw [w32i (z := 12 - w) (by omega) (by omega), w32i (z := e + 1) (by omega) (by omega), w32i (z := v + 1) (by omega) (by omega), w32i (z := v - 1) (by omega) (by omega), w32i (z := 12 - w - (12 - w)) (by omega) (by omega), w32i (z := 12 - w - l) (by omega) (by omega)]
  have fin : ∀ X Y c : Int, X = min l (12 - w) → Y = 12 - w - X → rM c → c = oE o th k v e → Q (some (vi (w32 (w64 (Int.tdiv (w64 (w64 (w64 (w * oG o th k (v + 1) 0) + w64 (X * oG o th k (v - 1) 0)) + w64 (Y * c))) 12))))) m := by
    intro X Y c hX hY hc hce
    rw [(od3_all hw hl (oG_rg ho k (v + 1) 0) (oG_rg ho k (v - 1) 0) hc hX hY).2.2, hce]
    exact h
  refine ⟨fun c => ⟨fun c2 => ⟨fun c3 => ?_, fun c3 => ?_⟩, fun c2 => ?_⟩, fun c => ⟨fun c2 => ⟨fun c3 => ?_, fun c3 => ?_⟩, fun c2 => ?_⟩⟩
  · refine cm_thenAt hB hT (by omega) (by omega) ⟨_, rfl, cm_thenAt hB hT (by omega) (by decide) ⟨_, rfl, cm_thenAt hB hT (by omega) (by decide) ⟨_, rfl, trivial, fin _ _ _ (by omega) (by omega) (oG_rg ho _ _ _) ?_⟩⟩⟩
    unfold oE; rw [if_neg c2, if_neg c3]
  · refine cm_thenAt hB hT (by omega) (by omega) ⟨_, rfl, cm_thenAt hB hT (by omega) (by decide) ⟨_, rfl, cm_thenAt hB hT (by omega) (by decide) ⟨_, rfl, trivial, fin _ _ _ (by omega) (by omega) (oG_rg ho _ _ _) ?_⟩⟩⟩
    unfold oE; rw [if_neg c2, if_pos c3]
  · refine cm_thenAt hB hT (by omega) (by omega) ⟨_, rfl, cm_thenAt hB hT (by omega) (by decide) ⟨_, rfl, cm_thenAt hB hT (by omega) (by decide) ⟨_, rfl, trivial, fin _ _ _ (by omega) (by omega) (oG_rg ho _ _ _) ?_⟩⟩⟩
    unfold oE; rw [if_pos c2]
  · refine cm_thenAt hB hT (by omega) (by omega) ⟨_, rfl, cm_thenAt hB hT (by omega) (by decide) ⟨_, rfl, cm_thenAt hB hT (by omega) (by decide) ⟨_, rfl, trivial, fin _ _ _ (by omega) (by omega) (oG_rg ho _ _ _) ?_⟩⟩⟩
    unfold oE; rw [if_neg c2, if_neg c3]
  · refine cm_thenAt hB hT (by omega) (by omega) ⟨_, rfl, cm_thenAt hB hT (by omega) (by decide) ⟨_, rfl, cm_thenAt hB hT (by omega) (by decide) ⟨_, rfl, trivial, fin _ _ _ (by omega) (by omega) (oG_rg ho _ _ _) ?_⟩⟩⟩
    unfold oE; rw [if_neg c2, if_pos c3]
  · refine cm_thenAt hB hT (by omega) (by omega) ⟨_, rfl, cm_thenAt hB hT (by omega) (by decide) ⟨_, rfl, cm_thenAt hB hT (by omega) (by decide) ⟨_, rfl, trivial, fin _ _ _ (by omega) (by omega) (oG_rg ho _ _ _) ?_⟩⟩⟩
    unfold oE; rw [if_pos c2]
theorem cm_theirRaid {m : AMem} {k : Nat} {v e B : Int} (ho : oOk o) (h9 : tdO m o) (hB : B ≤ 71) (hT : tbO m 1343 (oV o th k) B) (hv : -B ≤ v - 1 ∧ v ≤ B) (he : 0 ≤ e ∧ e ≤ 2) (h : Q (some (vi (oG o th k v e))) m) : MtX yX12_theirRaid cX12_theirRaid 3 (some .int) (d + 2) [vr 12 0, vi v, vi e] m Q := by
  refine Y_met rfl 0 rfl (sg_X12_theirRaid_0 _ _ _ _ ?_)
  rw [w32i (z := v - 1) (by omega) (by omega), h9.2.2.2.2]
  refine ⟨by decide, cm_thenAt hB hT (by omega) he ⟨_, rfl, by decide, cm_thenAt hB hT (by omega) he ⟨_, rfl, trivial, ?_⟩⟩⟩
  rw [h9.2.2.2.2, (od2_all (ho 13 (by decide) (by decide)) (oV_rg ho k (v - 1) e) (oV_rg ho k v e)).2.2]
  exact h
theorem cm_ourRaid {m : AMem} {k : Nat} {v e B : Int} (ho : oOk o) (h9 : tdO m o) (hB : B ≤ 71) (hT : tbO m 1343 (oG o th k) B) (hv : -B ≤ v - 1 ∧ v + 1 ≤ B) (he : 0 ≤ e ∧ e ≤ 2) (h : Q (some (vi (oV o th (k + 1) v e))) (upM m 12 0 44 (if oSh o th k v e < oDp o th k v e then 1 else 0))) : MtX yX12_ourRaid cX12_ourRaid 6 (some .int) (d + 3) [vr 12 0, vi v, vi e, vi th] m Q := by
  refine Y_met rfl 2 rfl (sg_X12_ourRaid_0 _ _ _ _ _ ?_)
  rw [h9.2.2.1, h9.2.2.2.1]
  refine ⟨by decide, by decide, cm_wayOf ho hB hT (ho 11 (by decide) (by decide)) (ho 12 (by decide) (by decide)) hv he ⟨_, rfl, by decide, by decide, ?_⟩⟩
  rw [h9.1, h9.2.1]
  refine cm_wayOf ho hB hT (ho 9 (by decide) (by decide)) (ho 10 (by decide) (by decide)) hv he ⟨_, rfl, ?_⟩
  have eD : od3 (o 9) (o 10) (oG o th k (v + 1) 0) (oG o th k (v - 1) 0) (oE o th k v e) = oDp o th k v e := rfl
  have eS : od3 (o 11) (o 12) (oG o th k (v + 1) 0) (oG o th k (v - 1) 0) (oE o th k v e) = oSh o th k v e := rfl
  rw [eD, eS]
  rw [oV_s] at h
  refine ⟨fun c => ⟨fun _ => ⟨trivial, ?_⟩, fun c2 => absurd c c2⟩, fun c => ⟨fun c2 => absurd c2 c, fun _ => ⟨trivial, ?_⟩⟩⟩
  · rw [if_neg (by omega), show max (oDp o th k v e) (oSh o th k v e) = oSh o th k v e by omega] at h
    exact h
  · rw [if_pos (by omega), show max (oDp o th k v e) (oSh o th k v e) = oDp o th k v e by omega] at h
    exact h
theorem cm_layThen {m : AMem} (h : ∀ m2, FrM [1343] m m2 → (∀ q : Int, 0 ≤ q → q < 429 → m2 1343 0 q = m 1342 0 q) → Q none m2) : MtX yX12_layThen cX12_layThen 2 none (d + 1) [vr 12 0] m Q := by
  have loop : ∀ (r : Nat) (i : Int) (mm : AMem), i + r = 429 → 0 ≤ i → FrM [1343] m mm → (∀ q : Int, 0 ≤ q → q < i → mm 1343 0 q = m 1342 0 q) → Y cX12_layThen 2 RX12 (d + 1) none 2 [some (vr 12 0), some (vi i)] [] mm (fun r mem2 => rk none r ∧ Q r mem2) := by
    intro r
    induction r with
    | zero =>
      intro i mm hi h0 hF hD
      exact sg_X12_layThen_2 _ _ _ ⟨fun _ => ⟨trivial, h mm hF fun q q0 q1 => hD q q0 (by omega)⟩, fun c => by omega⟩
    | succ r ih =>
      intro i mm hi h0 hF hD
      refine sg_X12_layThen_2 _ _ _ ⟨fun c => by omega, fun _ => ?_⟩
      rw [w32i (z := i + 1) (by omega) (by omega)]
      refine ⟨by omega, by omega, ih (i + 1) _ (by omega) (by omega) (FrM_uk hF (by decide) (by decide)) fun q q0 q1 => ?_⟩
      rw [up_eq]
      by_cases c : q = i
      · rw [if_pos c, c]
        exact FrM_n hF (by decide) (by decide)
      · rw [if_neg c]
        exact hD q q0 (by omega)
  exact Y_met rfl 1 rfl (sg_X12_layThen_0 _ _ (loop 429 0 m (by decide) (by decide) (FrM_refl _ _) fun q q0 q1 => by omega))
set_option maxHeartbeats 1000000 in
theorem cm_findOdds {m0 : AMem} {n : Nat} (ho : oOk o) (hn : n ≤ 20) (hf : tdO m0 o) (h : ∀ m2, FrM wOd m0 m2 → (n = 0 → tbO m2 1343 (oV o th 0) 71) → (∀ k : Nat, n = k + 1 → tbO m2 1343 (oG o th k) (70 - 2 * k)) → Q none m2) : MtX yX12_findOdds cX12_findOdds 7 none (d + 4) [vr 12 0, vi n, vi th] m0 Q := by
  have tdf : ∀ m, FrM wOd m0 m → tdO m o := fun m hF => by
    have f3 : ∀ i, m 1306 0 i = m0 1306 0 i := fun i => FrM_n hF (by decide) (by decide)
    unfold tdO
    rw [f3, f3, f3, f3, f3]
    exact hf
  have rounds : ∀ (r k : Nat) (m : AMem), k + r = n → (k = n → n = 0) → FrM wOd m0 m → tbO m 1343 (oV o th k) (71 - 2 * k) → Y cX12_findOdds 7 RX12 (d + 4) none 75 [some (vr 12 0), some (vi n), some (vi th), some (vi (k + 1)), none, none, none] [] m (fun r mem2 => rk none r ∧ Q r mem2) := by
    intro r
    induction r with
    | zero =>
      intro k m hk hk0 hF hT
      have e : k = 0 := by omega
      subst e
      refine sg_X12_findOdds_75 _ _ _ _ _ ⟨fun _ => ⟨trivial, h m hF (fun _ => ?_) fun k q => by omega⟩, fun c => by omega⟩
      exact hT
    | succ r ih =>
      intro k m hk hk0 hF hT
      refine sg_X12_findOdds_75 _ _ _ _ _ ⟨fun c => by omega, fun _ => ?_⟩
      obtain ⟨F, hFe⟩ : ∃ F : Int, F = 70 - 2 * k := ⟨_, rfl⟩
      rw [w32i (z := 2 * ((k : Int) + 1)) (by omega) (by omega), w32i (z := 71 - 2 * ((k : Int) + 1)) (by omega) (by omega), w32i (z := 71 - 2 * ((k : Int) + 1) + 1) (by omega) (by omega), show 71 - 2 * ((k : Int) + 1) + 1 = F by omega]
      -- ours
      have ours : ∀ (r2 e : Nat) (mm : AMem), e + r2 = 3 → k + 1 < n → FrM wOd m0 mm → tbO mm 1343 (oG o th k) F → dnT mm (oV o th (k + 1)) (F - 1) e (1 - F) → Y cX12_findOdds 7 RX12 (d + 4) none 161 [some (vr 12 0), some (vi n), some (vi th), some (vi (k + 1)), some (vi F), some (vi e), none] [] mm (fun r mem2 => rk none r ∧ Q r mem2) := by
        intro r2
        induction r2 with
        | zero =>
          intro e mm he hkn hF hT hD
          have e3 : e = 3 := by omega
          subst e3
          refine sg_X12_findOdds_161 _ _ _ _ _ _ _ ⟨fun _ => cm_layThen fun m2 hF2 hc => ⟨rfl, ?_⟩, fun c => by omega⟩
          rw [w32i (z := (k : Int) + 1 + 1) (by omega) (by omega)]
          have := ih (k + 1) m2 (by omega) (fun q => by omega) (FrM_trans hF (FrM_mono hF2 (by decide))) (by
            have q := dnT_t hD (by omega) hc
            rw [show F - 1 = 71 - 2 * ((k + 1 : Nat) : Int) by omega] at q
            exact q)
          rw [show (((k + 1 : Nat) : Int)) = (k : Int) + 1 by omega] at this
          exact Y_fg (by exact ⟨rfl, rfl, rfl, rfl, trivial⟩) this
        | succ r2 ih2 =>
          intro e mm he hkn hF hT hD
          refine sg_X12_findOdds_161 _ _ _ _ _ _ _ ⟨fun c => by omega, fun _ => ?_⟩
          rw [w32i (z := 1 - F) (by omega) (by omega)]
          have inner : ∀ (s : Nat) (v : Int) (mm : AMem), v + s = F → 1 - F ≤ v → FrM wOd m0 mm → tbO mm 1343 (oG o th k) F → dnT mm (oV o th (k + 1)) (F - 1) e v → Y cX12_findOdds 7 RX12 (d + 4) none 173 [some (vr 12 0), some (vi n), some (vi th), some (vi (k + 1)), some (vi F), some (vi e), some (vi v)] [] mm (fun r mem2 => rk none r ∧ Q r mem2) := by
            intro s
            induction s with
            | zero =>
              intro v mm hv hv0 hF hT hD
              refine sg_X12_findOdds_173 _ _ _ _ _ _ _ _ ⟨fun _ => ?_, fun c => by omega⟩
              rw [w32n (by omega)]
              have q := dnT_e hD (by omega)
              rw [show -(F - 1) = 1 - F by omega] at q
              exact Y_fg (by exact ⟨rfl, rfl, rfl, rfl, rfl, rfl, trivial⟩) (ih2 (e + 1) mm (by omega) hkn hF hT (by rw [show (((e + 1 : Nat) : Int)) = (e : Int) + 1 by omega]; exact q))
            | succ s ihs =>
              intro v mm hv hv0 hF hT hD
              refine sg_X12_findOdds_173 _ _ _ _ _ _ _ _ ⟨fun c => by omega, fun _ => ?_⟩
              refine cm_ourRaid ho (tdf _ hF) (B := F) (by omega) hT (by omega) (by omega) ⟨_, rfl, ?_⟩
              rw [w32i (z := 143 * (e : Int)) (by omega) (by omega), w32i (z := 143 * (e : Int) + v) (by omega) (by omega), w32i (z := 143 * (e : Int) + v + 71) (by omega) (by omega), w32i (z := v + 1) (by omega) (by omega)]
              refine ⟨by omega, ihs (v + 1) _ (by omega) (by omega) (FrM_uk (FrM_up hF (by decide)) (by decide) (by decide)) (fun e v e0 e1 v0 v1 => ?_) (dnT_u (dnT_c hD fun i => up_k (by decide)) (by omega) (by omega) (by omega) rfl)⟩
              rw [up_k (by decide), up_k (by decide)]
              exact hT e v e0 e1 v0 v1
          exact inner (2 * F - 1).toNat (1 - F) mm (by omega) (by omega) hF hT hD
      -- theirs
      have thrs : ∀ (r2 e : Nat) (mm : AMem), e + r2 = 3 → FrM wOd m0 mm → tbO mm 1343 (oV o th k) (71 - 2 * k) → dnT mm (oG o th k) F e (-F) → Y cX12_findOdds 7 RX12 (d + 4) none 93 [some (vr 12 0), some (vi n), some (vi th), some (vi (k + 1)), some (vi F), some (vi e), none] [] mm (fun r mem2 => rk none r ∧ Q r mem2) := by
        intro r2
        induction r2 with
        | zero =>
          intro e mm he hF hT hD
          have e3 : e = 3 := by omega
          subst e3
          refine sg_X12_findOdds_93 _ _ _ _ _ _ _ ⟨fun _ => cm_layThen fun m2 hF2 hc => ⟨rfl, fun c => ?_, fun c => ⟨trivial, ?_⟩⟩, fun c => by omega⟩
          · have q := dnT_0 (m := m2) (f := oV o th (k + 1)) (B := F - 1)
            rw [show -(F - 1) = 1 - F by omega] at q
            exact ours 3 0 m2 (by decide) (by omega) (FrM_trans hF (FrM_mono hF2 (by decide))) (dnT_t hD (by omega) hc) q
          · refine h m2 (FrM_trans hF (FrM_mono hF2 (by decide))) (fun q => by omega) fun k2 q => ?_
            have e2 : k2 = k := by omega
            subst e2
            have q := dnT_t hD (by omega) hc
            rw [hFe] at q
            exact q
        | succ r2 ih2 =>
          intro e mm he hF hT hD
          refine sg_X12_findOdds_93 _ _ _ _ _ _ _ ⟨fun c => by omega, fun _ => ?_⟩
          rw [w32i (z := -F) (by omega) (by omega)]
          have inner : ∀ (s : Nat) (v : Int) (mm : AMem), v + s = F + 1 → -F ≤ v → FrM wOd m0 mm → tbO mm 1343 (oV o th k) (71 - 2 * k) → dnT mm (oG o th k) F e v → Y cX12_findOdds 7 RX12 (d + 4) none 104 [some (vr 12 0), some (vi n), some (vi th), some (vi (k + 1)), some (vi F), some (vi e), some (vi v)] [] mm (fun r mem2 => rk none r ∧ Q r mem2) := by
            intro s
            induction s with
            | zero =>
              intro v mm hv hv0 hF hT hD
              refine sg_X12_findOdds_104 _ _ _ _ _ _ _ _ ⟨fun _ => ?_, fun c => by omega⟩
              rw [w32n (by omega)]
              exact Y_fg (by exact ⟨rfl, rfl, rfl, rfl, rfl, rfl, trivial⟩) (ih2 (e + 1) mm (by omega) hF hT (by rw [show (((e + 1 : Nat) : Int)) = (e : Int) + 1 by omega]; exact dnT_e hD (by omega)))
            | succ s ihs =>
              intro v mm hv hv0 hF hT hD
              refine sg_X12_findOdds_104 _ _ _ _ _ _ _ _ ⟨fun c => by omega, fun _ => ?_⟩
              refine cm_theirRaid ho (tdf _ hF) (B := 71 - 2 * k) (by omega) hT (by omega) (by omega) ⟨_, rfl, ?_⟩
              rw [w32i (z := 143 * (e : Int)) (by omega) (by omega), w32i (z := 143 * (e : Int) + v) (by omega) (by omega), w32i (z := 143 * (e : Int) + v + 71) (by omega) (by omega), w32i (z := v + 1) (by omega) (by omega)]
              refine ⟨by omega, ihs (v + 1) _ (by omega) (by omega) (FrM_uk hF (by decide) (by decide)) (fun e v e0 e1 v0 v1 => ?_) (dnT_u hD (by omega) (by omega) (by omega) rfl)⟩
              rw [up_k (by decide)]
              exact hT e v e0 e1 v0 v1
          exact inner (2 * F + 1).toNat (-F) mm (by omega) (by omega) hF hT hD
      exact thrs 3 0 m (by decide) hF hT dnT_0
  have outer : ∀ (r e : Nat) (m : AMem), e + r = 3 → FrM wOd m0 m → dnT m (oV o th 0) 71 e (-71) → Y cX12_findOdds 7 RX12 (d + 4) none 2 [some (vr 12 0), some (vi n), some (vi th), some (vi e), none, none, none] [] m (fun r mem2 => rk none r ∧ Q r mem2) := by
    intro r
    induction r with
    | zero =>
      intro e m he hF hD
      have e3 : e = 3 := by omega
      subst e3
      refine sg_X12_findOdds_2 _ _ _ _ _ ⟨fun _ => cm_layThen fun m2 hF2 hc => ⟨rfl, ?_⟩, fun c => by omega⟩
      exact rounds n 0 m2 (by omega) (fun q => q.symm) (FrM_trans hF (FrM_mono hF2 (by decide))) (dnT_t hD (by decide) hc)
    | succ r ih =>
      intro e m he hF hD
      refine sg_X12_findOdds_2 _ _ _ _ _ ⟨fun c => by omega, fun _ => ?_⟩
      have inner : ∀ (s : Nat) (v : Int) (mm : AMem), v + s = 72 → -71 ≤ v → FrM wOd m0 mm → dnT mm (oV o th 0) 71 e v → Y cX12_findOdds 7 RX12 (d + 4) none 11 [some (vr 12 0), some (vi n), some (vi th), some (vi e), some (vi v), none, none] [] mm (fun r mem2 => rk none r ∧ Q r mem2) := by
        intro s
        induction s with
        | zero =>
          intro v mm hv hv0 hF hD
          refine sg_X12_findOdds_11 _ _ _ _ _ _ ⟨fun _ => ?_, fun c => by omega⟩
          rw [w32n (by omega)]
          exact Y_fg (by exact ⟨rfl, rfl, rfl, rfl, trivial⟩) (ih (e + 1) mm (by omega) hF (by rw [show (((e + 1 : Nat) : Int)) = (e : Int) + 1 by omega]; exact dnT_e hD (by omega)))
        | succ s ihs =>
          intro v mm hv hv0 hF hD
          refine sg_X12_findOdds_11 _ _ _ _ _ _ ⟨fun c => by omega, fun _ => ?_⟩
          rw [w32i (z := 143 * (e : Int)) (by omega) (by omega), w32i (z := 143 * (e : Int) + v) (by omega) (by omega), w32i (z := 143 * (e : Int) + v + 71) (by omega) (by omega), w32i (z := v + 1) (by omega) (by omega)]
          have nx : ∀ z : Int, z = oV o th 0 v e → Y cX12_findOdds 7 RX12 (d + 4) none 11 [some (vr 12 0), some (vi n), some (vi th), some (vi e), some (vi (v + 1)), none, none] [] (upM mm 1342 0 (143 * e + v + 71) z) (fun r mem2 => rk none r ∧ Q r mem2) := fun z hz => ihs (v + 1) _ (by omega) (by omega) (FrM_uk hF (by decide) (by decide)) (dnT_u hD (by decide) (by omega) (by omega) hz)
          refine ⟨fun c => ⟨fun c2 => ⟨by omega, nx _ ?_⟩, fun c2 => ⟨by omega, nx _ ?_⟩⟩, fun c => ⟨by omega, nx _ ?_⟩⟩
          · rw [oV_0, if_neg (by omega), if_neg c2]
          · rw [oV_0, if_neg (by omega), if_pos c2]
          · rw [oV_0, if_pos (by omega)]
      exact inner 143 (-71) m (by decide) (by decide) hF hD
  exact Y_met rfl 4 rfl (sg_X12_findOdds_0 _ _ _ _ (outer 3 0 m0 (by decide) (FrM_refl _ _) dnT_0))
theorem cm_oddsOf {m0 : AMem} {n : Nat} {lead em a : Int} (ho : oOk o) (hn : n ≤ 20) (hl : -30 ≤ lead ∧ lead ≤ 30) (hem : 0 ≤ em ∧ em ≤ 2) (hth : th = 0 ∨ th = 1) (hf : tdO m0 o) (h : ∀ m2, FrM wOd m0 m2 → Q (some (vi (if a = 0 then oV o th n lead em else oCh o th n lead em))) m2) : MtX yX12_oddsOf cX12_oddsOf 7 (some .int) (d + 5) [vr 12 0, vi n, vi lead, vi em, vi a, vi th] m0 Q := by
  refine Y_met rfl 1 rfl (sg_X12_oddsOf_0 _ _ _ _ _ _ _ (cm_findOdds ho hn hf fun m2 hF h0 hk => ⟨rfl, fun c => ?_, fun c => ?_⟩))
  · obtain ⟨k, rfl⟩ : ∃ k : Nat, n = k + 1 := ⟨n - 1, by omega⟩
    have f3 : ∀ i, m2 1306 0 i = m0 1306 0 i := fun i => FrM_n hF (by decide) (by decide)
    have hf2 : tdO m2 o := by
      unfold tdO
      rw [f3, f3, f3, f3, f3]
      exact hf
    refine cm_ourRaid (k := k) ho hf2 (B := 70 - 2 * k) (by omega) (hk k rfl) (by omega) hem ⟨_, rfl, fun c2 => ⟨trivial, ?_⟩, fun c2 => ⟨trivial, ?_⟩⟩
    · have := h _ (FrM_up (k := 12) (j := 0) (i := 44) (v := if oSh o th k lead em < oDp o th k lead em then 1 else 0) hF (by decide))
      rw [if_neg c2] at this
      rw [up_s]
      exact this
    · have := h _ (FrM_up (k := 12) (j := 0) (i := 44) (v := if oSh o th k lead em < oDp o th k lead em then 1 else 0) hF (by decide))
      rw [if_pos c2] at this
      exact this
  · have e : n = 0 := by omega
    subst e
    have := h m2 hF
    refine ⟨fun c2 => ⟨trivial, ?_⟩, fun c2 => cm_thenAt (by decide) (h0 rfl) (by omega) (by decide) ⟨_, rfl, trivial, ?_⟩⟩
    · rw [if_neg c2] at this
      exact this
    · rw [if_pos c2, oV_0] at this
      rw [oV_0]
      exact this
theorem oOk_of {m : AMem} (hH : InvH m) : oOk (m 303 0) ∧ tdO m (m 303 0) := by
  have q := hH.2.2.2
  have a9 := q 9 (by decide) (by decide)
  have a10 := q 10 (by decide) (by decide)
  have a11 := q 11 (by decide) (by decide)
  have a12 := q 12 (by decide) (by decide)
  have a13 := q 13 (by decide) (by decide)
  refine ⟨fun i i0 i1 => ?_, a9.1.symm, a10.1.symm, a11.1.symm, a12.1.symm, a13.1.symm⟩
  have ok : ∀ w : Int, (w = 9 ∨ w = 10 ∨ w = 11 ∨ w = 12 ∨ w = 13) → ∀ v : Int, okV w v → 0 ≤ v ∧ v ≤ 12 := by
    intro w hw v hv
    rcases hw with rfl | rfl | rfl | rfl | rfl <;> simpa [okV, romL] using hv
  exact ok i (by omega) _ (q i (by omega) (by omega)).2
def wOx : List Nat := [700, 701, 6, 1342, 1343, 5044]
theorem pr_left {m : AMem} {a b c : Int} (hH : InvH m)
    (hQ : ∀ x m1, MtX yX12_left cX12_left 4 (some .int) (d + 6) [vr 12 0, vi a, vi b, vi c] m1 (fun r m2 => r = some (vi x) ∧ FrM wOx m m2) → Q (some (vi x)) m1) : MtX yX11_left cX11_left 4 (some .int) (d + 6) [vr 11 0, vi a, vi b, vi c] m Q := by
  have oo := oOk_of hH
  by_cases g : (0 ≤ a ∧ a ≤ 20) ∧ (-30 ≤ b ∧ b ≤ 30) ∧ (0 ≤ c ∧ c ≤ 1)
  · obtain ⟨n, rfl⟩ : ∃ n : Nat, a = n := ⟨a.toNat, by omega⟩
    refine Y_met rfl 0 rfl (sg_X11_left_0 _ _ _ _ _ (Y_met rfl 0 rfl (sg_X11_notOdds_0 _ _ _ _ _ ⟨fun q => by omega, fun _ => ⟨fun q => by omega, fun _ => ⟨fun q => by omega, fun _ => ⟨fun q => by omega, fun _ => ⟨fun q => by omega, fun _ => ⟨fun _ => ⟨Or.inl rfl, _, rfl, fun _ => ?_, fun q => absurd rfl q⟩, fun q => by omega⟩⟩⟩⟩⟩⟩)))
    have key : ∀ x m2, FrM [700, 701, 6] m m2 → x = (if c = 0 then oV (m 303 0) 0 n b 0 else oCh (m 303 0) 0 n b 0) → Q (some (vi x)) m2 := by
      intro x m2 hF hx
      have hF2 : FrM wOx m m2 := FrM_mono hF (by decide)
      have f3 : ∀ i, m2 1306 0 i = m 1306 0 i := fun i => FrM_n hF (by decide) (by decide)
      have hf2 : tdO m2 (m 303 0) := by
        unfold tdO
        rw [f3, f3, f3, f3, f3]
        exact oo.2
      refine hQ _ _ (Y_met rfl 0 rfl (sg_X12_left_0 _ _ _ _ _ (cm_in fun y hy => ⟨y, rfl, fun q => by omega, fun _ => cm_in fun y2 hy2 => ⟨y2, rfl, fun q => by omega, fun _ => cm_in fun y3 hy3 => ⟨y3, rfl, fun q => by omega, fun _ => ?_⟩⟩⟩)))
      exact cm_oddsOf oo.1 (by omega) g.2.1 (by decide) (Or.inl rfl) hf2 fun m3 hF3 => ⟨_, rfl, trivial, by rw [hx], FrM_trans hF2 (FrM_mono hF3 (by decide))⟩
    refine cc_weigh oo.1 (by omega) g.2.1 (by decide) (fun i _ _ => rfl) fun m2 hF h2 h3 => ⟨rfl, fun q => ⟨trivial, key _ _ hF ?_⟩, fun q => ⟨trivial, key _ _ hF ?_⟩⟩
    · rw [if_neg q]; exact h3
    · rw [if_pos q]; exact h2
  · have key : Q (some (vi (-1))) m := by
      refine hQ _ _ (Y_met rfl 0 rfl (sg_X12_left_0 _ _ _ _ _ (cm_in fun y hy => ⟨y, rfl, fun q => ⟨trivial, rfl, FrM_refl _ _⟩, fun _ => cm_in fun y2 hy2 => ⟨y2, rfl, fun q => ⟨trivial, rfl, FrM_refl _ _⟩, fun _ => cm_in fun y3 hy3 => ⟨y3, rfl, fun q => ⟨trivial, rfl, FrM_refl _ _⟩, fun _ => by omega⟩⟩⟩)))
    have n1 : (1 : Int) ≠ 0 := by decide
    refine Y_met rfl 0 rfl (sg_X11_left_0 _ _ _ _ _ (Y_met rfl 0 rfl (sg_X11_notOdds_0 _ _ _ _ _ ⟨fun q => ⟨Or.inr rfl, _, rfl, fun q => absurd q n1, fun _ => ⟨trivial, key⟩⟩, fun _ => ⟨fun q => ⟨Or.inr rfl, _, rfl, fun q => absurd q n1, fun _ => ⟨trivial, key⟩⟩, fun _ => ⟨fun q => ⟨Or.inr rfl, _, rfl, fun q => absurd q n1, fun _ => ⟨trivial, key⟩⟩, fun _ => ⟨fun q => ⟨Or.inr rfl, _, rfl, fun q => absurd q n1, fun _ => ⟨trivial, key⟩⟩, fun _ => ⟨fun q => ⟨Or.inr rfl, _, rfl, fun q => absurd q n1, fun _ => ⟨trivial, key⟩⟩, fun _ => ⟨fun q => by omega, fun q => ⟨Or.inr rfl, _, rfl, fun q => absurd q n1, fun _ => ⟨trivial, key⟩⟩⟩⟩⟩⟩⟩⟩)))
theorem pr_third {m : AMem} {a b e c : Int} (hH : InvH m)
    (hQ : ∀ x m1, MtX yX12_third cX12_third 5 (some .int) (d + 6) [vr 12 0, vi a, vi b, vi e, vi c] m1 (fun r m2 => r = some (vi x) ∧ FrM wOx m m2) → Q (some (vi x)) m1) : MtX yX11_third cX11_third 5 (some .int) (d + 6) [vr 11 0, vi a, vi b, vi e, vi c] m Q := by
  have oo := oOk_of hH
  have n1 : (1 : Int) ≠ 0 := by decide
  by_cases g : (0 ≤ a ∧ a ≤ 20) ∧ (-30 ≤ b ∧ b ≤ 30) ∧ (0 ≤ c ∧ c ≤ 1) ∧ (0 ≤ e ∧ e ≤ 2)
  · obtain ⟨n, rfl⟩ : ∃ n : Nat, a = n := ⟨a.toNat, by omega⟩
    refine Y_met rfl 0 rfl (sg_X11_third_0 _ _ _ _ _ _ (Y_met rfl 0 rfl (sg_X11_notOdds_0 _ _ _ _ _ ⟨fun q => by omega, fun _ => ⟨fun q => by omega, fun _ => ⟨fun q => by omega, fun _ => ⟨fun q => by omega, fun _ => ⟨fun q => by omega, fun _ => ⟨fun _ => ⟨Or.inl rfl, _, rfl, fun q => absurd rfl q, fun _ => ⟨fun q => by omega, fun _ => ⟨fun _ => ?_, fun q => by omega⟩⟩⟩, fun q => by omega⟩⟩⟩⟩⟩⟩)))
    have key : ∀ x m2, FrM [700, 701, 6] m m2 → x = (if c = 0 then oV (m 303 0) 1 n b e else oCh (m 303 0) 1 n b e) → Q (some (vi x)) m2 := by
      intro x m2 hF hx
      have hF2 : FrM wOx m m2 := FrM_mono hF (by decide)
      have f3 : ∀ i, m2 1306 0 i = m 1306 0 i := fun i => FrM_n hF (by decide) (by decide)
      have hf2 : tdO m2 (m 303 0) := by
        unfold tdO
        rw [f3, f3, f3, f3, f3]
        exact oo.2
      refine hQ _ _ (Y_met rfl 0 rfl (sg_X12_third_0 _ _ _ _ _ _ (cm_in fun y hy => ⟨y, rfl, fun q => by omega, fun _ => cm_in fun y2 hy2 => ⟨y2, rfl, fun q => by omega, fun _ => cm_in fun y3 hy3 => ⟨y3, rfl, fun q => by omega, fun _ => cm_in fun y4 hy4 => ⟨y4, rfl, fun q => by omega, fun _ => ?_⟩⟩⟩⟩)))
      exact cm_oddsOf oo.1 (by omega) g.2.1 g.2.2.2 (Or.inr rfl) hf2 fun m3 hF3 => ⟨_, rfl, trivial, by rw [hx], FrM_trans hF2 (FrM_mono hF3 (by decide))⟩
    refine cc_weigh oo.1 (by omega) g.2.1 g.2.2.2 (fun i _ _ => rfl) fun m2 hF h2 h3 => ⟨rfl, fun q => ⟨trivial, key _ _ hF ?_⟩, fun q => ⟨trivial, key _ _ hF ?_⟩⟩
    · rw [if_neg q]; exact h3
    · rw [if_pos q]; exact h2
  · have key : Q (some (vi (-1))) m := by
      refine hQ _ _ (Y_met rfl 0 rfl (sg_X12_third_0 _ _ _ _ _ _ (cm_in fun y hy => ⟨y, rfl, fun q => ⟨trivial, rfl, FrM_refl _ _⟩, fun _ => cm_in fun y2 hy2 => ⟨y2, rfl, fun q => ⟨trivial, rfl, FrM_refl _ _⟩, fun _ => cm_in fun y3 hy3 => ⟨y3, rfl, fun q => ⟨trivial, rfl, FrM_refl _ _⟩, fun _ => cm_in fun y4 hy4 => ⟨y4, rfl, fun q => ⟨trivial, rfl, FrM_refl _ _⟩, fun _ => by omega⟩⟩⟩⟩)))
    refine Y_met rfl 0 rfl (sg_X11_third_0 _ _ _ _ _ _ (Y_met rfl 0 rfl (sg_X11_notOdds_0 _ _ _ _ _ ⟨fun q => ⟨Or.inr rfl, _, rfl, fun _ => ⟨trivial, key⟩, fun q => absurd q n1⟩, fun _ => ⟨fun q => ⟨Or.inr rfl, _, rfl, fun _ => ⟨trivial, key⟩, fun q => absurd q n1⟩, fun _ => ⟨fun q => ⟨Or.inr rfl, _, rfl, fun _ => ⟨trivial, key⟩, fun q => absurd q n1⟩, fun _ => ⟨fun q => ⟨Or.inr rfl, _, rfl, fun _ => ⟨trivial, key⟩, fun q => absurd q n1⟩, fun _ => ⟨fun q => ⟨Or.inr rfl, _, rfl, fun _ => ⟨trivial, key⟩, fun q => absurd q n1⟩, fun _ => ⟨fun _ => ⟨Or.inl rfl, _, rfl, fun q => absurd rfl q, fun _ => ⟨fun q => ⟨trivial, key⟩, fun _ => ⟨fun _ => by omega, fun q => ⟨trivial, key⟩⟩⟩⟩, fun q => ⟨Or.inr rfl, _, rfl, fun _ => ⟨trivial, key⟩, fun q => absurd q n1⟩⟩⟩⟩⟩⟩⟩)))
end
