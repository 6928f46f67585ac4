/-! mend, of, undo, redo -/
def hGet (h : StR) (n w : Int) : Int := if w = 0 then h (20 + n) else if w = 1 then h (30 + n) else if w = 2 then h n else if w = 3 then tbt (h 11) n else h (40 + w)
def hSet (h : StR) (n w v : Int) : StR := if w = 0 then upS h (20 + n) v else if w = 1 then upS h (30 + n) v else if w = 2 then upS h n v else if w = 3 then upS h 11 (stBt (h 11) n v) else upS h (40 + w) v
def kOw (h : StR) (n w : Int) : Prop := (0 ≤ w ∧ w ≤ 3 ∧ 0 ≤ n ∧ n < h 10) ∨ (4 ≤ w ∧ w ≤ 13 ∧ n = 0)
theorem okV_0 {v : Int} : okV 0 v ↔ 0 ≤ v ∧ v ≤ 8 := by simp [okV, romL]
theorem okV_1 {v : Int} : okV 1 v ↔ 1 ≤ v ∧ v ≤ 8 := by simp [okV, romL]
theorem okV_2 {v : Int} : okV 2 v ↔ 0 ≤ v ∧ v ≤ 9 := by simp [okV, romL]
theorem okV_3 {v : Int} : okV 3 v ↔ 0 ≤ v ∧ v ≤ 1 := by simp [okV, romL]
theorem hGet_ok {h : StR} {n w : Int} (hk : hOk h) (hw : kOw h n w) : okV w (hGet h n w) := by
  obtain ⟨c1, c2, c3, c4, c5⟩ := hk
  unfold hGet
  rcases hw with hw | hw
  · have := c3 n hw.2.2.1 hw.2.2.2
    have t := tb01 c2.1 c2.2 hw.2.2.1 (by omega)
    have e : w = 0 ∨ w = 1 ∨ w = 2 ∨ w = 3 := by omega
    rcases e with rfl | rfl | rfl | rfl
    · rw [if_pos rfl, okV_0]; exact this.1
    · rw [if_neg (by decide), if_pos rfl, okV_1]; exact this.2.1
    · rw [if_neg (by decide), if_neg (by decide), if_pos rfl, okV_2]; exact this.2.2
    · rw [if_neg (by decide), if_neg (by decide), if_neg (by decide), if_pos rfl, okV_3]; omega
  · rw [if_neg (by omega), if_neg (by omega), if_neg (by omega), if_neg (by omega)]
    exact c5 w hw.1 hw.2.1
theorem hSet_10 {h : StR} {n w v : Int} (hk : hOk h) (hw : kOw h n w) : hSet h n w v 10 = h 10 := by
  have := hk.1
  unfold hSet
  rcases hw with hw | hw
  · (repeat' split) <;> exact upS_n (by omega)
  · rw [if_neg (by omega), if_neg (by omega), if_neg (by omega), if_neg (by omega)]
    exact upS_n (by omega)
theorem kOw_set {h : StR} {n w v n2 w2 : Int} (hk : hOk h) (hw : kOw h n w) : kOw (hSet h n w v) n2 w2 ↔ kOw h n2 w2 := by
  unfold kOw
  rw [hSet_10 hk hw]
section
variable {d : Nat} {m : AMem} {h : StR} {Q : Option AV → AMem → Prop}
theorem hSet_all {n w v : Int} (hk : hOk h) (hw : kOw h n w) (hv : okV w v) : hOk (hSet h n w v) ∧ (hSet h n w v 11 = if w = 3 then stBt (h 11) n v else h 11) ∧
    (∀ i : Int, 0 ≤ i → i < h 10 → hSet h n w v (20 + i) = (if w = 0 ∧ i = n then v else h (20 + i)) ∧ hSet h n w v (30 + i) = (if w = 1 ∧ i = n then v else h (30 + i)) ∧ hSet h n w v i = (if w = 2 ∧ i = n then v else h i)) ∧
    (∀ x : Int, 4 ≤ x → x ≤ 13 → hSet h n w v (40 + x) = if x = w then v else h (40 + x)) := by
  have e10 := hSet_10 (v := v) hk hw
  obtain ⟨c1, c2, c3, c4, c5⟩ := hk
  have e11 : hSet h n w v 11 = if w = 3 then stBt (h 11) n v else h 11 := by
    unfold hSet
    rcases hw with hw | hw
    · have e : w = 0 ∨ w = 1 ∨ w = 2 ∨ w = 3 := by omega
      rcases e with rfl | rfl | rfl | rfl
      · rw [if_pos rfl, if_neg (by decide), upS_n (by omega)]
      · rw [if_neg (by decide), if_pos rfl, if_neg (by decide), upS_n (by omega)]
      · rw [if_neg (by decide), if_neg (by decide), if_pos rfl, if_neg (by decide), upS_n (by omega)]
      · rw [if_neg (by decide), if_neg (by decide), if_neg (by decide), if_pos rfl, if_pos rfl, upS_s]
    · rw [if_neg (by omega), if_neg (by omega), if_neg (by omega), if_neg (by omega), if_neg (by omega), upS_n (by omega)]
  have e3 : ∀ i : Int, 0 ≤ i → i < h 10 → hSet h n w v (20 + i) = (if w = 0 ∧ i = n then v else h (20 + i)) ∧ hSet h n w v (30 + i) = (if w = 1 ∧ i = n then v else h (30 + i)) ∧ hSet h n w v i = (if w = 2 ∧ i = n then v else h i) := by
    intro i g0 g1
    unfold hSet
    rcases hw with hw | hw
    · have e : w = 0 ∨ w = 1 ∨ w = 2 ∨ w = 3 := by omega
      rcases e with rfl | rfl | rfl | rfl
      · rw [if_pos rfl, upS_n (k := 30 + i) (by omega), upS_n (k := i) (by omega), if_neg (c := (0 : Int) = 1 ∧ i = n) (by omega), if_neg (c := (0 : Int) = 2 ∧ i = n) (by omega)]
        refine ⟨?_, rfl, rfl⟩
        by_cases q : i = n
        · rw [q, upS_s, if_pos ⟨rfl, rfl⟩]
        · rw [upS_n (by omega), if_neg (fun z => q z.2)]
      · rw [if_neg (by decide), if_pos rfl, upS_n (k := 20 + i) (by omega), upS_n (k := i) (by omega), if_neg (c := (1 : Int) = 0 ∧ i = n) (by omega), if_neg (c := (1 : Int) = 2 ∧ i = n) (by omega)]
        refine ⟨rfl, ?_, rfl⟩
        by_cases q : i = n
        · rw [q, upS_s, if_pos ⟨rfl, rfl⟩]
        · rw [upS_n (by omega), if_neg (fun z => q z.2)]
      · rw [if_neg (by decide), if_neg (by decide), if_pos rfl, upS_n (k := 20 + i) (by omega), upS_n (k := 30 + i) (by omega), if_neg (c := (2 : Int) = 0 ∧ i = n) (by omega), if_neg (c := (2 : Int) = 1 ∧ i = n) (by omega)]
        refine ⟨rfl, rfl, ?_⟩
        by_cases q : i = n
        · rw [q, upS_s, if_pos ⟨rfl, rfl⟩]
        · rw [upS_n (by omega), if_neg (fun z => q z.2)]
      · rw [if_neg (by decide), if_neg (by decide), if_neg (by decide), if_pos rfl, upS_n (k := 20 + i) (by omega), upS_n (k := 30 + i) (by omega), upS_n (k := i) (by omega), if_neg (c := (3 : Int) = 0 ∧ i = n) (by omega), if_neg (c := (3 : Int) = 1 ∧ i = n) (by omega), if_neg (c := (3 : Int) = 2 ∧ i = n) (by omega)]
        exact ⟨rfl, rfl, rfl⟩
    · rw [if_neg (by omega), if_neg (by omega), if_neg (by omega), if_neg (by omega), upS_n (k := 20 + i) (by omega), upS_n (k := 30 + i) (by omega), upS_n (k := i) (by omega), if_neg (c := w = 0 ∧ i = n) (by omega), if_neg (c := w = 1 ∧ i = n) (by omega), if_neg (c := w = 2 ∧ i = n) (by omega)]
      exact ⟨rfl, rfl, rfl⟩
  have e4 : ∀ x : Int, 4 ≤ x → x ≤ 13 → hSet h n w v (40 + x) = if x = w then v else h (40 + x) := by
    intro x g0 g1
    unfold hSet
    rcases hw with hw | hw
    · rw [if_neg (c := x = w) (by omega)]
      have e : w = 0 ∨ w = 1 ∨ w = 2 ∨ w = 3 := by omega
      rcases e with rfl | rfl | rfl | rfl
      · rw [if_pos rfl, upS_n (by omega)]
      · rw [if_neg (by decide), if_pos rfl, upS_n (by omega)]
      · rw [if_neg (by decide), if_neg (by decide), if_pos rfl, upS_n (by omega)]
      · rw [if_neg (by decide), if_neg (by decide), if_neg (by decide), if_pos rfl, upS_n (by omega)]
    · rw [if_neg (by omega), if_neg (by omega), if_neg (by omega), if_neg (by omega)]
      by_cases q : x = w
      · rw [q, upS_s, if_pos rfl]
      · rw [upS_n (by omega), if_neg q]
  refine ⟨?_, e11, e3, e4⟩
  unfold hOk
  rw [e10, e11]
  have hv3 : w = 3 → (v = 0 ∨ v = 1) ∧ 0 ≤ n ∧ n < 7 := by
    intro q
    subst q
    rw [okV_3] at hv
    unfold kOw at hw
    omega
  refine ⟨c1, ?_, fun i g0 g1 => ?_, fun i g0 g1 => ?_, fun x g0 g1 => ?_⟩
  · split
    · rename_i q
      have := hv3 q
      exact st_rg c2.1 c2.2 this.2.1 this.2.2 this.1
    · exact c2
  · obtain ⟨q1, q2, q3⟩ := e3 i g0 g1
    have q4 := c3 i g0 g1
    rw [q1, q2, q3]
    refine ⟨?_, ?_, ?_⟩
    · split
      · rename_i z; rw [z.1, okV_0] at hv; exact hv
      · exact q4.1
    · split
      · rename_i z; rw [z.1, okV_1] at hv; exact hv
      · exact q4.2.1
    · split
      · rename_i z; rw [z.1, okV_2] at hv; exact hv
      · exact q4.2.2
  · split
    · rename_i q
      have := hv3 q
      rw [tb_st c2.1 c2.2 this.2.1 this.2.2 this.1 (by omega) g1]
      split
      · unfold kOw at hw; omega
      · exact c4 i g0 g1
    · exact c4 i g0 g1
  · rw [e4 x g0 g1]
    split
    · rename_i q; rw [q]; exact hv
    · exact c5 x g0 g1
theorem cc_knows {n w : Int} (hR : hcR m h) (hQ : ∀ x : Int, (x = 1 ∧ kOw h n w ∨ x = 0 ∧ ¬ kOw h n w) → Q (some (vi x)) m) : MtX yX2_knows cX2_knows 3 (some .boolean) (d + 2) [vr 2 0, vi n, vi w] m Q := by
  unfold kOw at hQ
  have e := hR.1
  refine Y_met rfl 0 rfl (sg_X2_knows_0 _ _ _ _ ⟨fun c => ⟨Or.inl rfl, hQ 0 (by omega)⟩, fun c => ⟨fun c2 => ⟨fun c3 => ⟨fun c4 => ⟨Or.inl rfl, hQ 0 (by omega)⟩, fun c4 => ⟨Or.inr rfl, hQ 1 (by omega)⟩⟩, fun c3 => ?_⟩, fun c2 => ⟨Or.inl rfl, hQ 0 (by omega)⟩⟩⟩)
  have big : ∀ x : Int, (x = 1 ∧ (0 ≤ n ∧ n < m 2 0 5) ∨ x = 0 ∧ ¬ (0 ≤ n ∧ n < m 2 0 5)) → ((x = 0 ∨ x = 1) ∧ ∃ x7 : Int, some (vi x) = some (vi x7) ∧ (rk (some .boolean) (some (vi x7)) ∧ Q (some (vi x7)) m)) := fun x hx => ⟨by omega, x, rfl, by simp only [rk]; omega, hQ x (by omega)⟩
  exact Y_met rfl 0 rfl (sg_X2_exists_0 _ _ _ ⟨fun c4 => big 0 (by omega), fun c4 => ⟨fun c5 => big 0 (by omega), fun c5 => big 1 (by omega)⟩⟩)
theorem cm_isOne {n w : Int} (hk : hOk h) (hR : hmR m h) (hQ : ∀ x : Int, (x = 1 ∧ kOw h n w ∨ x = 0 ∧ ¬ kOw h n w) → Q (some (vi x)) m) : MtX yX12_isOne cX12_isOne 3 (some .boolean) (d + 3) [vr 12 0, vi n, vi w] m Q := by
  unfold kOw at hQ
  have e := hR.1
  have hn := hk.1
  refine Y_met rfl 0 rfl (sg_X12_isOne_0 _ _ _ _ (cm_in fun x hx => ⟨x, rfl, fun c => cm_in fun y hy => ⟨y, rfl, fun c2 => ⟨Or.inl rfl, hQ 0 (by omega)⟩, fun c2 => ⟨fun c3 => ⟨Or.inl rfl, hQ 0 (by omega)⟩, fun c3 => ⟨Or.inr rfl, hQ 1 (by omega)⟩⟩⟩, fun c => cm_isDefender (by omega) fun y hy => ⟨y, rfl, by simp only [rk]; omega, hQ y (by omega)⟩⟩))
theorem cc_tell {n w : Int} (hk : hOk h) (hR : hcR m h) (hw : kOw h n w) (hQ : Q (some (vi (hGet h n w))) m) : MtX yX2_tell cX2_tell 3 (some .int) (d + 1) [vr 2 0, vi n, vi w] m Q := by
  obtain ⟨a1, a2, a3, a4⟩ := hR
  have hn := hk.1
  unfold hGet at hQ
  unfold kOw at hw
  refine Y_met rfl 0 rfl (sg_X2_tell_0 _ _ _ _ ⟨fun c => ⟨by omega, trivial, ?_⟩, fun c => ⟨by omega, trivial, ?_⟩, fun c => ⟨by omega, trivial, ?_⟩, fun c => ⟨trivial, ?_⟩, fun c => ⟨by omega, trivial, ?_⟩⟩)
  · rw [if_pos c] at hQ
    rw [(a3 n (by omega) (by omega)).1]; exact hQ
  · rw [if_neg (by omega), if_pos c] at hQ
    rw [(a3 n (by omega) (by omega)).2.1]; exact hQ
  · rw [if_neg (by omega), if_neg (by omega), if_pos c] at hQ
    rw [(a3 n (by omega) (by omega)).2.2]; exact hQ
  · rw [if_neg (by omega), if_neg (by omega), if_neg (by omega), if_pos c] at hQ
    rw [a2]; exact hQ
  · rw [if_neg (by omega), if_neg (by omega), if_neg (by omega), if_neg (by omega)] at hQ
    rw [a4 w (by omega) (by omega)]; exact hQ
theorem cm_value {n w : Int} (hk : hOk h) (hR : hmR m h) (hw : kOw h n w) (hQ : Q (some (vi (hGet h n w))) m) : MtX yX12_valueAt cX12_valueAt 3 (some .int) (d + 1) [vr 12 0, vi w, vi n] m Q := by
  obtain ⟨a1, a3, a4⟩ := hR
  have hn := hk.1
  unfold hGet at hQ
  unfold kOw at hw
  refine Y_met rfl 0 rfl (sg_X12_valueAt_0 _ _ _ _ ⟨fun c => ⟨by omega, trivial, ?_⟩, fun c => ⟨by omega, trivial, ?_⟩, fun c => ⟨by omega, trivial, ?_⟩, fun c => ⟨by omega, trivial, ?_⟩, fun c => ?_⟩)
  · rw [if_pos c] at hQ
    rw [(a3 n (by omega) (by omega)).1]; exact hQ
  · rw [if_neg (by omega), if_pos c] at hQ
    rw [(a3 n (by omega) (by omega)).2.1]; exact hQ
  · rw [if_neg (by omega), if_neg (by omega), if_pos c] at hQ
    rw [(a3 n (by omega) (by omega)).2.2.1]; exact hQ
  · rw [if_neg (by omega), if_neg (by omega), if_neg (by omega), if_pos c] at hQ
    rw [(a3 n (by omega) (by omega)).2.2.2]; exact hQ
  · rw [if_neg (by omega), if_neg (by omega), if_neg (by omega), if_neg (by omega)] at hQ
    rw [w32i (by omega) (by omega), a4 w (by omega) (by omega)]
    exact ⟨by omega, trivial, hQ⟩
theorem cc_change {n w v : Int} (hk : hOk h) (hR : hcR m h) (hw : kOw h n w) (hv : okV w v) (hst : 0 ≤ m 2 0 6 ∧ m 2 0 6 ≤ 200000) (hQ : ∀ m2, FrM wHf m m2 → hcR m2 (hSet h n w v) → m2 2 0 6 = m 2 0 6 + 1 → m2 2 0 7 = m 2 0 7 → Q none m2) : MtX yX2_change cX2_change 4 none (d + 1) [vr 2 0, vi n, vi w, vi v] m Q := by
  obtain ⟨s0, s1, s2, s3⟩ := hSet_all hk hw hv
  have s10 := hSet_10 (v := v) hk hw
  obtain ⟨a1, a2, a3, a4⟩ := hR
  have hn := hk.1
  have hw2 := hw
  unfold kOw at hw2
  have go : ∀ (k : Nat) (i x : Int), (k = 2 ∧ i = 4 ∨ k = 300 ∨ k = 301 ∨ k = 302 ∨ k = 303) → hcR (upM (upM m 2 0 6 (w32 (m 2 0 6 + 1))) k 0 i x) (hSet h n w v) → Q none (upM (upM m 2 0 6 (w32 (m 2 0 6 + 1))) k 0 i x) := by
    intro k i x hk2 hc
    refine hQ _ ?_ hc ?_ ?_
    · rcases hk2 with ⟨rfl, rfl⟩ | rfl | rfl | rfl | rfl <;> exact FrM_uk (FrM_uk (FrM_refl _ _) (by decide) (by decide)) (by decide) (by decide)
    · rw [w32i (by omega) (by omega)]
      rcases hk2 with ⟨rfl, rfl⟩ | rfl | rfl | rfl | rfl <;> simp [upM]
    · rcases hk2 with ⟨rfl, rfl⟩ | rfl | rfl | rfl | rfl <;> simp [upM]
  refine Y_met rfl 0 rfl (sg_X2_change_0 _ _ _ _ _ ⟨fun c => ⟨by omega, trivial, go 300 _ _ (by simp) ?_⟩, fun c => ⟨by omega, trivial, go 301 _ _ (by simp) ?_⟩, fun c => ⟨by omega, trivial, go 302 _ _ (by simp) ?_⟩, fun c => ⟨trivial, go 2 _ _ (by simp) ?_⟩, fun c => ⟨by omega, trivial, go 303 _ _ (by simp) ?_⟩⟩)
  · unfold hcR
    rw [s10, s1, if_neg (by omega)]
    refine ⟨by simpa [upM] using a1, by simpa [upM] using a2, fun i g0 g1 => ?_, fun x g0 g1 => ?_⟩
    · obtain ⟨t1, t2, t3⟩ := s2 i g0 g1
      have := a3 i g0 g1
      rw [t1, t2, t3]
      by_cases e : i = n
      · simp [upM, e, c]; rw [← e]; exact ⟨this.2.1, this.2.2⟩
      · simp [upM, e, c]; exact this
    · rw [s3 x g0 g1, if_neg (by omega)]
      simpa [upM] using a4 x g0 g1
  · unfold hcR
    rw [s10, s1, if_neg (by omega)]
    refine ⟨by simpa [upM] using a1, by simpa [upM] using a2, fun i g0 g1 => ?_, fun x g0 g1 => ?_⟩
    · obtain ⟨t1, t2, t3⟩ := s2 i g0 g1
      have := a3 i g0 g1
      rw [t1, t2, t3]
      by_cases e : i = n
      · simp [upM, e, c]; rw [← e]; exact ⟨this.1, this.2.2⟩
      · simp [upM, e, c]; exact this
    · rw [s3 x g0 g1, if_neg (by omega)]
      simpa [upM] using a4 x g0 g1
  · unfold hcR
    rw [s10, s1, if_neg (by omega)]
    refine ⟨by simpa [upM] using a1, by simpa [upM] using a2, fun i g0 g1 => ?_, fun x g0 g1 => ?_⟩
    · obtain ⟨t1, t2, t3⟩ := s2 i g0 g1
      have := a3 i g0 g1
      rw [t1, t2, t3]
      by_cases e : i = n
      · simp [upM, e, c]; rw [← e]; exact ⟨this.1, this.2.1⟩
      · simp [upM, e, c]; exact this
    · rw [s3 x g0 g1, if_neg (by omega)]
      simpa [upM] using a4 x g0 g1
  · unfold hcR
    rw [s10, s1, if_pos c]
    refine ⟨by simpa [upM] using a1, ?_, fun i g0 g1 => ?_, fun x g0 g1 => ?_⟩
    · rw [up_s]
      show or_32 (an32 (m 2 0 4) _) _ = _
      rw [a2]
      rfl
    · obtain ⟨t1, t2, t3⟩ := s2 i g0 g1
      have := a3 i g0 g1
      rw [t1, t2, t3, if_neg (by omega), if_neg (by omega), if_neg (by omega)]
      exact this
    · rw [s3 x g0 g1, if_neg (by omega)]
      exact a4 x g0 g1
  · unfold hcR
    rw [s10, s1, if_neg (by omega)]
    refine ⟨by simpa [upM] using a1, by simpa [upM] using a2, fun i g0 g1 => ?_, fun x g0 g1 => ?_⟩
    · obtain ⟨t1, t2, t3⟩ := s2 i g0 g1
      have := a3 i g0 g1
      rw [t1, t2, t3, if_neg (by omega), if_neg (by omega), if_neg (by omega)]
      simpa [upM] using this
    · rw [s3 x g0 g1]
      have := a4 x g0 g1
      by_cases e : x = w
      · simp [upM, e]
      · simp [upM, e]; exact this
theorem cm_lays {n w v : Int} (hk : hOk h) (hR : hmR m h) (hw : kOw h n w) (hv : okV w v) (hQ : ∀ m2, FrM wHm m m2 → hmR m2 (hSet h n w v) → Q none m2) : MtX yX12_lays cX12_lays 4 none (d + 1) [vr 12 0, vi w, vi n, vi v] m Q := by
  obtain ⟨s0, s1, s2, s3⟩ := hSet_all hk hw hv
  have s10 := hSet_10 (v := v) hk hw
  obtain ⟨a1, a3, a4⟩ := hR
  have hn := hk.1
  have hb := hk.2.1
  have hw2 := hw
  unfold kOw at hw2
  have go : ∀ (k : Nat) (i x : Int), (k = 1302 ∨ k = 1303 ∨ k = 1304 ∨ k = 1305 ∨ k = 1306) → hmR (upM m k 0 i x) (hSet h n w v) → Q none (upM m k 0 i x) := by
    intro k i x hk2 hc
    refine hQ _ ?_ hc
    rcases hk2 with rfl | rfl | rfl | rfl | rfl <;> exact FrM_uk (FrM_refl _ _) (by decide) (by decide)
  refine Y_met rfl 0 rfl (sg_X12_lays_0 _ _ _ _ _ ⟨fun c => ⟨by omega, trivial, go 1302 _ _ (by decide) ?_⟩, fun c => ⟨by omega, trivial, go 1303 _ _ (by decide) ?_⟩, fun c => ⟨by omega, trivial, go 1304 _ _ (by decide) ?_⟩, fun c => ⟨by omega, trivial, go 1305 _ _ (by decide) ?_⟩, fun c => ?_⟩)
  · unfold hmR
    rw [s10, s1, if_neg (by omega)]
    refine ⟨by simpa [upM] using a1, fun i g0 g1 => ?_, fun x g0 g1 => ?_⟩
    · obtain ⟨t1, t2, t3⟩ := s2 i g0 g1
      have := a3 i g0 g1
      rw [t1, t2, t3]
      by_cases e : i = n
      · simp [upM, e, c]; rw [← e]; exact this.2
      · simp [upM, e, c]; exact this
    · rw [s3 x g0 g1, if_neg (by omega)]
      simpa [upM] using a4 x g0 g1
  · unfold hmR
    rw [s10, s1, if_neg (by omega)]
    refine ⟨by simpa [upM] using a1, fun i g0 g1 => ?_, fun x g0 g1 => ?_⟩
    · obtain ⟨t1, t2, t3⟩ := s2 i g0 g1
      have := a3 i g0 g1
      rw [t1, t2, t3]
      by_cases e : i = n
      · simp [upM, e, c]; rw [← e]; exact ⟨this.1, this.2.2⟩
      · simp [upM, e, c]; exact this
    · rw [s3 x g0 g1, if_neg (by omega)]
      simpa [upM] using a4 x g0 g1
  · unfold hmR
    rw [s10, s1, if_neg (by omega)]
    refine ⟨by simpa [upM] using a1, fun i g0 g1 => ?_, fun x g0 g1 => ?_⟩
    · obtain ⟨t1, t2, t3⟩ := s2 i g0 g1
      have := a3 i g0 g1
      rw [t1, t2, t3]
      by_cases e : i = n
      · simp [upM, e, c]; rw [← e]; exact ⟨this.1, this.2.1, this.2.2.2⟩
      · simp [upM, e, c]; exact this
    · rw [s3 x g0 g1, if_neg (by omega)]
      simpa [upM] using a4 x g0 g1
  · unfold hmR
    rw [s10, s1, if_pos c]
    refine ⟨by simpa [upM] using a1, fun i g0 g1 => ?_, fun x g0 g1 => ?_⟩
    · obtain ⟨t1, t2, t3⟩ := s2 i g0 g1
      have := a3 i g0 g1
      have hv3 : v = 0 ∨ v = 1 := by rw [c, okV_3] at hv; omega
      rw [t1, t2, t3, if_neg (by omega), if_neg (by omega), if_neg (by omega), tb_st hb.1 hb.2 (by omega) (by omega) hv3 g0 (by omega)]
      by_cases e : i = n
      · simp [upM, e]; rw [← e]; exact ⟨this.1, this.2.1, this.2.2.1⟩
      · simp [upM, e]; exact this
    · rw [s3 x g0 g1, if_neg (by omega)]
      simpa [upM] using a4 x g0 g1
  · rw [w32i (by omega) (by omega)]
    refine ⟨by omega, trivial, go 1306 _ _ (by decide) ?_⟩
    unfold hmR
    rw [s10, s1, if_neg (by omega)]
    refine ⟨by simpa [upM] using a1, fun i g0 g1 => ?_, fun x g0 g1 => ?_⟩
    · obtain ⟨t1, t2, t3⟩ := s2 i g0 g1
      have := a3 i g0 g1
      rw [t1, t2, t3, if_neg (by omega), if_neg (by omega), if_neg (by omega)]
      simpa [upM] using this
    · rw [s3 x g0 g1, up_eq]
      have := a4 x g0 g1
      by_cases e : x = w
      · rw [if_pos (by omega), if_pos e]
      · rw [if_neg (by omega), if_neg e]; exact this
theorem pr_of {n w : Int} (hI : InvH m)
    (hQ : ∀ x m1, MtX yX12_of cX12_of 3 (some .int) (d + 4) [vr 12 0, vi n, vi w] m1 (fun r m2 => r = some (vi x) ∧ m2 = m) → Q (some (vi x)) m1) : MtX yX11_of cX11_of 3 (some .int) (d + 4) [vr 11 0, vi n, vi w] m Q := by
  obtain ⟨q1, q2, q3⟩ := inv_h hI
  refine Y_met rfl 0 rfl (sg_X11_of_0 _ _ _ _ (cc_knows q1 fun x hx => ⟨x, rfl, fun c => ⟨trivial, hQ _ _ ?_⟩, fun c => ?_⟩))
  · refine Y_met rfl 0 rfl (sg_X12_of_0 _ _ _ _ (cm_isOne q3 q2 fun y hy => ⟨y, rfl, fun c2 => ⟨trivial, rfl, rfl⟩, fun c2 => ?_⟩))
    rcases hx with hx | hx
    · omega
    · rcases hy with hy | hy
      · exact absurd hy.2 hx.2
      · omega
  · have hw : kOw (hOf m) n w := by
      rcases hx with hx | hx
      · exact hx.2
      · omega
    refine cc_tell q3 q1 hw ⟨_, rfl, trivial, hQ _ _ ?_⟩
    refine Y_met rfl 0 rfl (sg_X12_of_0 _ _ _ _ (cm_isOne q3 q2 fun y hy => ⟨y, rfl, fun c2 => ?_, fun c2 => cm_value q3 q2 hw ⟨_, rfl, trivial, rfl, rfl⟩⟩))
    rcases hy with hy | hy
    · omega
    · exact absurd hw hy.2
end
/-! the changes kept -/
def gcR (m : AMem) (g : StR) : Prop := m 1 0 4 = g 400 ∧ m 1 0 5 = g 401 ∧ ∀ i : Int, 0 ≤ i → i < g 401 → m 200 0 i = g i ∧ m 201 0 i = g (100 + i) ∧ m 202 0 i = g (200 + i) ∧ m 203 0 i = g (300 + i)
def gmR (m : AMem) (g : StR) : Prop := m 12 0 7 = g 400 ∧ m 12 0 8 = g 401 - g 400 ∧ ∀ i : Int, 0 ≤ i → i < g 401 → m 1310 0 i = g i ∧ m 1309 0 i = g (100 + i) ∧ m 1311 0 i = g (200 + i) ∧ m 1312 0 i = g (300 + i)
def gOk (n : Int) (g : StR) : Prop := (0 ≤ g 400 ∧ g 400 ≤ g 401 ∧ g 401 ≤ 40) ∧ ∀ i : Int, 0 ≤ i → i < g 401 → okCh n (g (100 + i)) (g i) (g (200 + i)) (g (300 + i))
def gOff (m : AMem) : StR := fun k => if k = 400 then m 1 0 4 else if k = 401 then m 1 0 5 else if k < 100 then m 200 0 k else if k < 200 then m 201 0 (k - 100) else if k < 300 then m 202 0 (k - 200) else m 203 0 (k - 300)
theorem gOff_0 {m : AMem} {i : Int} (h1 : i < 40) : gOff m i = m 200 0 i := by
  unfold gOff
  rw [if_neg (by omega), if_neg (by omega), if_pos (by omega)]
theorem gOff_1 {m : AMem} {i : Int} (h0 : 0 ≤ i) (h1 : i < 40) : gOff m (100 + i) = m 201 0 i := by
  unfold gOff
  rw [if_neg (by omega), if_neg (by omega), if_neg (by omega), if_pos (by omega)]
  congr 1
  omega
theorem gOff_2 {m : AMem} {i : Int} (h0 : 0 ≤ i) (h1 : i < 40) : gOff m (200 + i) = m 202 0 i := by
  unfold gOff
  rw [if_neg (by omega), if_neg (by omega), if_neg (by omega), if_neg (by omega), if_pos (by omega)]
  congr 1
  omega
theorem gOff_3 {m : AMem} {i : Int} (h0 : 0 ≤ i) (h1 : i < 40) : gOff m (300 + i) = m 203 0 i := by
  unfold gOff
  rw [if_neg (by omega), if_neg (by omega), if_neg (by omega), if_neg (by omega), if_neg (by omega)]
  congr 1
  omega
theorem inv_g {m : AMem} (hI : InvC m) : gcR m (gOff m) ∧ gmR m (gOff m) ∧ gOk (m 12 0 1) (gOff m) := by
  obtain ⟨⟨a1, a2, a3, a4, a5⟩, b⟩ := hI
  have e0 : gOff m 400 = m 1 0 4 := rfl
  have e1 : gOff m 401 = m 1 0 5 := rfl
  unfold gcR gmR gOk
  rw [e0, e1]
  refine ⟨⟨rfl, rfl, fun i g0 g1 => ?_⟩, ⟨a4.symm, by omega, fun i g0 g1 => ?_⟩, by omega, fun i g0 g1 => ?_⟩
  · rw [gOff_0 (i := i) (by omega), gOff_1 g0 (by omega), gOff_2 g0 (by omega), gOff_3 g0 (by omega)]
    exact ⟨rfl, rfl, rfl, rfl⟩
  · rw [gOff_0 (i := i) (by omega), gOff_1 g0 (by omega), gOff_2 g0 (by omega), gOff_3 g0 (by omega)]
    have := b i g0 (by omega)
    exact ⟨this.1.symm, this.2.1.symm, this.2.2.1.symm, this.2.2.2.1.symm⟩
  · rw [gOff_0 (i := i) (by omega), gOff_1 g0 (by omega), gOff_2 g0 (by omega), gOff_3 g0 (by omega)]
    have := b i g0 (by omega)
    rw [this.1, this.2.1, this.2.2.1, this.2.2.2.1]
    exact this.2.2.2.2
theorem g_inv {m : AMem} {g : StR} (h1 : gcR m g) (h2 : gmR m g) (h3 : gOk (m 12 0 1) g) : InvC m := by
  obtain ⟨a1, a2, a3⟩ := h1
  obtain ⟨b1, b2, b3⟩ := h2
  obtain ⟨c1, c2⟩ := h3
  refine ⟨by omega, fun i g0 g1 => ?_⟩
  have p1 := a3 i g0 (by omega)
  have p2 := b3 i g0 (by omega)
  have p3 := c2 i g0 (by omega)
  rw [p1.1, p1.2.1, p1.2.2.1, p1.2.2.2, p2.1, p2.2.1, p2.2.2.1, p2.2.2.2]
  exact ⟨rfl, rfl, rfl, rfl, p3⟩
theorem gcR_fr {W : List Nat} {m m2 : AMem} {g : StR} (hF : FrM W m m2) (h2 : ∀ c ∈ [1, 200, 201, 202, 203], c ∉ W) (hR : gcR m g) : gcR m2 g := by
  obtain ⟨a1, a2, a3⟩ := hR
  refine ⟨?_, ?_, fun i g0 g1 => ?_⟩
  · rw [FrM_n hF (by decide) (h2 _ (by decide))]; exact a1
  · rw [FrM_n hF (by decide) (h2 _ (by decide))]; exact a2
  · rw [FrM_n hF (by decide) (h2 _ (by decide)), FrM_n hF (by decide) (h2 _ (by decide)), FrM_n hF (by decide) (h2 _ (by decide)), FrM_n hF (by decide) (h2 _ (by decide))]; exact a3 i g0 g1
theorem gmR_fr {W : List Nat} {m m2 : AMem} {g : StR} (hF : FrM W m m2) (h2 : ∀ c ∈ [5007, 5008, 1309, 1310, 1311, 1312], c ∉ W) (hR : gmR m g) : gmR m2 g := by
  obtain ⟨a1, a2, a3⟩ := hR
  refine ⟨?_, ?_, fun i g0 g1 => ?_⟩
  · rw [hF 12 0 7 (h2 _ (by decide))]; exact a1
  · rw [hF 12 0 8 (h2 _ (by decide))]; exact a2
  · rw [FrM_n hF (by decide) (h2 _ (by decide)), FrM_n hF (by decide) (h2 _ (by decide)), FrM_n hF (by decide) (h2 _ (by decide)), FrM_n hF (by decide) (h2 _ (by decide))]; exact a3 i g0 g1
theorem gOk_mono {n n2 : Int} {g : StR} (hn : n ≤ n2) (h : gOk n g) : gOk n2 g := by
  refine ⟨h.1, fun i g0 g1 => ?_⟩
  have := h.2 i g0 g1
  unfold okCh at this ⊢
  exact ⟨by omega, this.2⟩
theorem InvC_n {W : List Nat} {m m2 : AMem} (hF : FrM W m m2) (h2 : ∀ c ∈ [1, 200, 201, 202, 203, 5007, 5008, 1309, 1310, 1311, 1312], c ∉ W) (hn : m 12 0 1 ≤ m2 12 0 1) (hI : InvC m) : InvC m2 := by
  obtain ⟨q1, q2, q3⟩ := inv_g hI
  exact g_inv (gcR_fr hF (fun c hc => h2 c ((by decide : ∀ c ∈ [1, 200, 201, 202, 203], c ∈ [1, 200, 201, 202, 203, 5007, 5008, 1309, 1310, 1311, 1312]) c hc)) q1) (gmR_fr hF (fun c hc => h2 c ((by decide : ∀ c ∈ [5007, 5008, 1309, 1310, 1311, 1312], c ∈ [1, 200, 201, 202, 203, 5007, 5008, 1309, 1310, 1311, 1312]) c hc)) q2) (gOk_mono hn q3)
/-- the first is forgotten -/
def gSh (g : StR) : StR := fun k => if k = 400 then 39 else if k < 39 ∨ (100 ≤ k ∧ k < 139) ∨ (200 ≤ k ∧ k < 239) ∨ (300 ≤ k ∧ k < 339) then g (k + 1) else g k
def gN1 (g : StR) (n w b a : Int) : StR := upS (upS (upS (upS (upS (upS g (g 400) n) (100 + g 400) w) (200 + g 400) b) (300 + g 400) a) 401 (g 400 + 1)) 400 (g 400 + 1)
def gNote (g : StR) (n w b a : Int) : StR := if g 400 < 40 then gN1 g n w b a else gN1 (gSh g) n w b a
theorem gN1_all {g : StR} {n w b a : Int} (hg : 0 ≤ g 400 ∧ g 400 < 40) : gN1 g n w b a 400 = g 400 + 1 ∧ gN1 g n w b a 401 = g 400 + 1 ∧ ∀ i : Int, 0 ≤ i → i < 40 → gN1 g n w b a i = (if i = g 400 then n else g i) ∧ gN1 g n w b a (100 + i) = (if i = g 400 then w else g (100 + i)) ∧ gN1 g n w b a (200 + i) = (if i = g 400 then b else g (200 + i)) ∧ gN1 g n w b a (300 + i) = (if i = g 400 then a else g (300 + i)) := by
  unfold gN1
  refine ⟨upS_s, ?_, fun i g0 g1 => ⟨?_, ?_, ?_, ?_⟩⟩
  · rw [upS_n (by decide), upS_s]
  · rw [upS_n (by omega), upS_n (by omega), upS_n (by omega), upS_n (by omega), upS_n (by omega)]
    by_cases e : i = g 400
    · rw [if_pos e, e, upS_s]
    · rw [if_neg e, upS_n (by omega)]
  · rw [upS_n (by omega), upS_n (by omega), upS_n (by omega), upS_n (by omega)]
    by_cases e : i = g 400
    · rw [if_pos e, e, upS_s]
    · rw [if_neg e, upS_n (by omega), upS_n (by omega)]
  · rw [upS_n (by omega), upS_n (by omega), upS_n (by omega)]
    by_cases e : i = g 400
    · rw [if_pos e, e, upS_s]
    · rw [if_neg e, upS_n (by omega), upS_n (by omega), upS_n (by omega)]
  · rw [upS_n (by omega), upS_n (by omega)]
    by_cases e : i = g 400
    · rw [if_pos e, e, upS_s]
    · rw [if_neg e, upS_n (by omega), upS_n (by omega), upS_n (by omega), upS_n (by omega)]
theorem gSh_all {g : StR} : gSh g 400 = 39 ∧ gSh g 401 = g 401 ∧ ∀ i : Int, 0 ≤ i → i < 40 → gSh g i = (if i < 39 then g (i + 1) else g i) ∧ gSh g (100 + i) = (if i < 39 then g (100 + (i + 1)) else g (100 + i)) ∧ gSh g (200 + i) = (if i < 39 then g (200 + (i + 1)) else g (200 + i)) ∧ gSh g (300 + i) = (if i < 39 then g (300 + (i + 1)) else g (300 + i)) := by
  unfold gSh
  refine ⟨rfl, rfl, fun i g0 g1 => ⟨?_, ?_, ?_, ?_⟩⟩
  · rw [if_neg (by omega)]
    by_cases e : i < 39
    · rw [if_pos (by omega), if_pos e]
    · rw [if_neg (by omega), if_neg e]
  · rw [if_neg (by omega)]
    by_cases e : i < 39
    · rw [if_pos (by omega), if_pos e, Int.add_assoc]
    · rw [if_neg (by omega), if_neg e]
  · rw [if_neg (by omega)]
    by_cases e : i < 39
    · rw [if_pos (by omega), if_pos e, Int.add_assoc]
    · rw [if_neg (by omega), if_neg e]
  · rw [if_neg (by omega)]
    by_cases e : i < 39
    · rw [if_pos (by omega), if_pos e, Int.add_assoc]
    · rw [if_neg (by omega), if_neg e]
theorem gN1_ok {c n w b a : Int} {g : StR} (hg : gOk c g) (h4 : g 400 < 40) (hc : okCh c w n b a) : gOk c (gN1 g n w b a) := by
  obtain ⟨q0, q1⟩ := hg
  obtain ⟨e1, e2, e3⟩ := gN1_all (n := n) (w := w) (b := b) (a := a) (g := g) ⟨q0.1, h4⟩
  unfold gOk
  rw [e1, e2]
  refine ⟨by omega, fun i g0 g1 => ?_⟩
  obtain ⟨f1, f2, f3, f4⟩ := e3 i g0 (by omega)
  rw [f1, f2, f3, f4]
  by_cases e : i = g 400
  · rw [if_pos e, if_pos e, if_pos e, if_pos e]; exact hc
  · rw [if_neg e, if_neg e, if_neg e, if_neg e]; exact q1 i g0 (by omega)
theorem gSh_ok {c : Int} {g : StR} (hg : gOk c g) (h4 : ¬ g 400 < 40) : gOk c (gSh g) := by
  obtain ⟨q0, q1⟩ := hg
  obtain ⟨e1, e2, e3⟩ := gSh_all (g := g)
  unfold gOk
  rw [e1, e2]
  refine ⟨by omega, fun i g0 g1 => ?_⟩
  obtain ⟨f1, f2, f3, f4⟩ := e3 i g0 (by omega)
  rw [f1, f2, f3, f4]
  by_cases e : i < 39
  · rw [if_pos e, if_pos e, if_pos e, if_pos e]; exact q1 (i + 1) (by omega) (by omega)
  · rw [if_neg e, if_neg e, if_neg e, if_neg e]; exact q1 i g0 (by omega)
theorem gNote_ok {c n w b a : Int} {g : StR} (hg : gOk c g) (hc : okCh c w n b a) : gOk c (gNote g n w b a) := by
  unfold gNote
  split
  · rename_i h; exact gN1_ok hg h hc
  · rename_i h; exact gN1_ok (gSh_ok hg h) (by rw [gSh_all.1]; decide) hc
