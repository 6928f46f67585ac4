/-! all that stays true between two calls -/
section
variable {d : Nat} {L : Option LnL} {m m2 : AMem} {Q : Option AV → AMem → Prop}
theorem pOf_fr {W : List Nat} (h : FrM W m m2) (h2 : ∀ c ∈ [2, 300, 301, 302, 303], c ∉ W) : pOf m2 = pOf m := by
  have e2 : m2 2 0 = m 2 0 := FrM_f h (by decide) (h2 _ (by decide))
  have e3 : m2 300 0 = m 300 0 := FrM_f h (by decide) (h2 _ (by decide))
  have e4 : m2 301 0 = m 301 0 := FrM_f h (by decide) (h2 _ (by decide))
  have e5 : m2 302 0 = m 302 0 := FrM_f h (by decide) (h2 _ (by decide))
  have e6 : m2 303 0 = m 303 0 := FrM_f h (by decide) (h2 _ (by decide))
  funext k
  unfold pOf
  rw [e2, e3, e4, e5, e6]
theorem LawC_7 {W : List Nat} (h : FrM W m m2) (h2 : ∀ c ∈ [3, 400, 401], c ∉ W) (h7 : m2 2 0 7 = m 2 0 7) (hL : LawC m L) : LawC m2 L := by
  have e3 : ∀ j, m2 3 j = m 3 j := fun j => FrM_f h (by decide) (h2 _ (by decide))
  have e4 : ∀ j, m2 400 j = m 400 j := fun j => FrM_f h (by decide) (h2 _ (by decide))
  have e5 : ∀ j, m2 401 j = m 401 j := fun j => FrM_f h (by decide) (h2 _ (by decide))
  unfold LawC at hL ⊢
  rw [h7, e3, e4, e5]
  exact hL
/-- the half has moved on: what the search remembers is void -/
theorem InvSr_b {p2 : StR} {p : StR} {L2 : Option LnL} (h : m 2 0 6 < m2 2 0 6) (h8 : m2 8 0 8 = m 8 0 8) (hS : InvSr m p L) : InvSr m2 p2 L2 := ⟨by have := hS.1; omega, fun _ q => by have := hS.1; omega⟩
theorem InvSr_p {W : List Nat} (hP : StP m m2) (h : FrM W m m2) (h8 : 8 ∉ W) (hS : InvSr m (pOf m) L) : InvSr m2 (pOf m2) L := by
  rcases hP with rfl | hB
  · exact hS
  · exact InvSr_b hB.1 (FrM_n h (by decide) h8) hS
theorem LawC_p {W : List Nat} (hP : StP m m2) (h : FrM W m m2) (h2 : ∀ c ∈ [3, 400, 401], c ∉ W) (hL : LawC m L) : LawC m2 L := by
  rcases hP with rfl | hB
  · exact hL
  · exact LawC_7 h h2 hB.2.2 hL
def InvD (m : AMem) : Prop := (m 4 0 4 = 0 ∨ m 4 0 4 = 1) ∧ m 4 0 4 ≠ m 2 0 7
def InvAl (m : AMem) : Prop := InvH m ∧ InvC m ∧ InvT m ∧ InvM m ∧ InvBd m ∧ InvS m ∧ InvD m ∧ 0 ≤ m 2 0 6 ∧ ∃ L, LawC m L ∧ LawM m L ∧ InvSr m (pOf m) L
def fpA : List Nat := [0, 1, 2, 3, 4, 5, 8, 10, 11, 100, 101, 200, 201, 202, 203, 300, 301, 302, 303, 400, 401, 600, 601, 902, 1100, 500, 1302, 1303, 1304, 1305, 1306, 1309, 1310, 1311, 1312, 1313, 1319, 1320, 1321, 1322, 1323, 1350, 1353, 1354, 1356, 1358, 1359, 1360, 1361, 5001, 5007, 5008, 5014, 5026, 5051, 5052, 5055, 5057]
theorem InvAl_fr {W : List Nat} (h : FrM W m m2) (hW : fpA.all (fun c => !W.contains c) = true) (hA : InvAl m) : InvAl m2 ∧ m2 2 0 6 = m 2 0 6 := by
  have hd : ∀ c ∈ fpA, c ∉ W := fun c hc q => by
    have := List.all_eq_true.mp hW c hc
    simp at this
    exact this q
  have sm : ∀ F : List Nat, (∀ c ∈ F, c ∈ fpA) → Sm F m m2 := fun F hF k j i hc => h k j i (hd _ (hF _ hc))
  obtain ⟨a1, a2, a3, a4, a5, a6, a7, a8, L, b1, b2, b3⟩ := hA
  have e2 : m2 2 0 = m 2 0 := FrM_f h (by decide) (hd _ (by decide))
  have e11 : m2 4 0 = m 4 0 := FrM_f h (by decide) (hd _ (by decide))
  have hp : pOf m2 = pOf m := pOf_fr h fun c hc => hd c ((by decide : ∀ c ∈ [2, 300, 301, 302, 303], c ∈ fpA) c hc)
  refine ⟨⟨InvH_sm (sm _ (by decide)) a1, InvC_sm (sm _ (by decide)) a2, InvT_sm (sm _ (by decide)) a3, InvM_sm (sm _ (by decide)) a4, InvBd_sm (sm _ (by decide)) a5, InvS_sm (sm _ (by decide)) a6, ?_, ?_, L, LawC_fr h (hd _ (by decide)) (hd _ (by decide)) (hd _ (by decide)) (hd _ (by decide)) b1, LawM_fr h (fun c hc => hd c ((by decide : ∀ c ∈ [5026, 1319, 1320, 1321, 1322, 1323], c ∈ fpA) c hc)) b2, ?_⟩, ?_⟩
  · unfold InvD; rw [e2, e11]; exact a7
  · rw [e2]; exact a8
  · rw [hp]
    exact InvSr_fr h (fun c hc => hd c ((by decide : ∀ c ∈ [2, 8, 902], c ∈ fpA) c hc)) b3
  · rw [e2]
/-- a pair that asks and changes nothing that stays -/
theorem pa_ask {y1 y2 : MethodName} {c1 c2 : ByteArray} {n1 n2 dd : Nat} {a1 a2 : List AV} {W : List Nat} (hW : fpA.all (fun c => !W.contains c) = true) (hA : InvAl m)
    (pr : (∀ x m1, MtX y2 c2 n2 (some .int) dd a2 m1 (fun r m2 => r = some (vi x) ∧ FrM W m m2) → Q (some (vi x)) m1) → MtX y1 c1 n1 (some .int) dd a1 m Q)
    (hQ : ∀ x m1, MtX y2 c2 n2 (some .int) dd a2 m1 (fun r m2 => r = some (vi x) ∧ InvAl m2 ∧ m2 2 0 6 ≤ m 2 0 6 + 8) → Q (some (vi x)) m1) : MtX y1 c1 n1 (some .int) dd a1 m Q :=
  pr fun x m1 hM => hQ x m1 (MtX_mono hM fun r m2 hq => ⟨hq.1, by
    have := InvAl_fr hq.2 hW hA
    exact ⟨this.1, by omega⟩⟩)
theorem pa_raid {a b : Int} (hA : InvAl m) (hQ : ∀ x m1, MtX yX12_raid cX12_raid 3 (some .int) (d + 9) [vr 12 0, vi a, vi b] m1 (fun r m2 => r = some (vi x) ∧ InvAl m2 ∧ m2 2 0 6 ≤ m 2 0 6 + 8) → Q (some (vi x)) m1) : MtX yX11_raid cX11_raid 4 (some .int) (d + 9) [vr 11 0, vi a, vi b] m Q := by
  have hA2 := hA
  obtain ⟨h1, _, _, _, _, h6, _, _, L, b1, b2, _⟩ := hA
  exact pa_ask (W := wRd) (by decide) hA2 (fun g => pr_raid h6 h1 b1 b2 g) hQ
theorem pa_judge {a b : Int} (hA : InvAl m) (hQ : ∀ x m1, MtX yX12_judge cX12_judge 3 (some .int) (d + 5) [vr 12 0, vi a, vi b] m1 (fun r m2 => r = some (vi x) ∧ InvAl m2 ∧ m2 2 0 6 ≤ m 2 0 6 + 8) → Q (some (vi x)) m1) : MtX yX11_judge cX11_judge 4 (some .int) (d + 5) [vr 11 0, vi a, vi b] m Q := by
  have hA2 := hA
  obtain ⟨h1, _, _, _, _, h6, _⟩ := hA
  exact pa_ask (W := wJg) (by decide) hA2 (fun g => pr_judge h6 g) hQ
theorem pa_left {a b c : Int} (hA : InvAl m) (hQ : ∀ x m1, MtX yX12_left cX12_left 4 (some .int) (d + 6) [vr 12 0, vi a, vi b, vi c] m1 (fun r m2 => r = some (vi x) ∧ InvAl m2 ∧ m2 2 0 6 ≤ m 2 0 6 + 8) → Q (some (vi x)) m1) : MtX yX11_left cX11_left 4 (some .int) (d + 6) [vr 11 0, vi a, vi b, vi c] m Q := by
  have hA2 := hA
  obtain ⟨h1, _⟩ := hA
  exact pa_ask (W := wOx) (by decide) hA2 (fun g => pr_left h1 g) hQ
end
