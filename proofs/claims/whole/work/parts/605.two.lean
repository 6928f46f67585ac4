theorem tdm1 (a : Int) : Int.tdiv a (-1) = -a := by rw [Int.tdiv_neg, Int.tdiv_one]
theorem tmm1 (a : Int) : Int.tmod a (-1) = 0 := by rw [Int.tmod_neg, Int.tmod_one]
section
variable {d : Nat} {a b : Int} {m : AMem} {Q : Option AV → AMem → Prop}
theorem cm_two0 (h : Q (some (vi (jnF 0 a b))) m) : MtX yX12_twoOf cX12_twoOf 3 (some .int) (d + 1) [vi 124, vi a, vi b] m Q := by
  refine Y_met rfl 0 rfl (sg_X12_twoOf_0 _ _ _ _ _ ?_)
  simp only [Int.reduceEq, false_implies, true_implies, true_and, and_true, Int.reduceLE, not_true_eq_false, not_false_eq_true, and_self]
  have e : ∀ v, jnF 0 a b = v → Q (some (vi v)) m := fun v e => e ▸ h
  exact ⟨fun c => ⟨trivial, e _ (by simp [jnF, c])⟩, fun c => ⟨fun c2 => ⟨trivial, e _ (by simp [jnF, c, c2])⟩, fun c2 => ⟨trivial, e _ (by simp [jnF, c2])⟩⟩⟩
theorem cm_two1 (h : Q (some (vi (jnF 1 a b))) m) : MtX yX12_twoOf cX12_twoOf 3 (some .int) (d + 1) [vi 38, vi a, vi b] m Q := by
  refine Y_met rfl 0 rfl (sg_X12_twoOf_0 _ _ _ _ _ ?_)
  simp only [Int.reduceEq, false_implies, true_implies, true_and, and_true, Int.reduceLE, not_true_eq_false, not_false_eq_true, and_self]
  have e : ∀ v, jnF 1 a b = v → Q (some (vi v)) m := fun v e => e ▸ h
  exact ⟨fun c => ⟨trivial, e _ (by simp [jnF, c])⟩, fun c => ⟨fun c2 => ⟨trivial, e _ (by simp [jnF, c2])⟩, fun c2 => ⟨trivial, e _ (by simp [jnF, c, c2])⟩⟩⟩
theorem cm_two2 (h : Q (some (vi (jnF 2 a b))) m) : MtX yX12_twoOf cX12_twoOf 3 (some .int) (d + 1) [vi 60, vi a, vi b] m Q := by
  refine Y_met rfl 0 rfl (sg_X12_twoOf_0 _ _ _ _ _ ?_)
  simp only [Int.reduceEq, false_implies, true_implies, true_and, and_true, Int.reduceLE, not_true_eq_false, not_false_eq_true, and_self]
  have e : ∀ v, jnF 2 a b = v → Q (some (vi v)) m := fun v e => e ▸ h
  exact ⟨fun c => ⟨trivial, e _ (by simp [jnF]; omega)⟩, fun c => ⟨trivial, e _ (by simp [jnF]; omega)⟩⟩
theorem cm_two3 (h : Q (some (vi (jnF 3 a b))) m) : MtX yX12_twoOf cX12_twoOf 3 (some .int) (d + 1) [vi 61, vi a, vi b] m Q := by
  refine Y_met rfl 0 rfl (sg_X12_twoOf_0 _ _ _ _ _ ?_)
  simp only [Int.reduceEq, false_implies, true_implies, true_and, and_true, Int.reduceLE, not_true_eq_false, not_false_eq_true, and_self]
  have e : ∀ v, jnF 3 a b = v → Q (some (vi v)) m := fun v e => e ▸ h
  exact ⟨fun c => ⟨trivial, e _ (by simp [jnF, c])⟩, fun c => ⟨trivial, e _ (by simp [jnF, c])⟩⟩
theorem cm_two4 (h : Q (some (vi (jnF 4 a b))) m) : MtX yX12_twoOf cX12_twoOf 3 (some .int) (d + 1) [vi 62, vi a, vi b] m Q := by
  refine Y_met rfl 0 rfl (sg_X12_twoOf_0 _ _ _ _ _ ?_)
  simp only [Int.reduceEq, false_implies, true_implies, true_and, and_true, Int.reduceLE, not_true_eq_false, not_false_eq_true, and_self]
  have e : ∀ v, jnF 4 a b = v → Q (some (vi v)) m := fun v e => e ▸ h
  exact ⟨fun c => ⟨trivial, e _ (by simp [jnF]; omega)⟩, fun c => ⟨trivial, e _ (by simp [jnF]; omega)⟩⟩
theorem cm_two5 (h : Q (some (vi (jnF 5 a b))) m) : MtX yX12_twoOf cX12_twoOf 3 (some .int) (d + 1) [vi 43, vi a, vi b] m Q := by
  refine Y_met rfl 0 rfl (sg_X12_twoOf_0 _ _ _ _ _ ?_)
  simp only [Int.reduceEq, false_implies, true_implies, true_and, and_true, Int.reduceLE, not_true_eq_false, not_false_eq_true, and_self]
  have e : ∀ v, jnF 5 a b = v → Q (some (vi v)) m := fun v e => e ▸ h
  exact ⟨trivial, e _ (by simp [jnF])⟩
theorem cm_two6 (h : Q (some (vi (jnF 6 a b))) m) : MtX yX12_twoOf cX12_twoOf 3 (some .int) (d + 1) [vi 45, vi a, vi b] m Q := by
  refine Y_met rfl 0 rfl (sg_X12_twoOf_0 _ _ _ _ _ ?_)
  simp only [Int.reduceEq, false_implies, true_implies, true_and, and_true, Int.reduceLE, not_true_eq_false, not_false_eq_true, and_self]
  have e : ∀ v, jnF 6 a b = v → Q (some (vi v)) m := fun v e => e ▸ h
  exact ⟨trivial, e _ (by simp [jnF])⟩
theorem cm_two7 (h : Q (some (vi (jnF 7 a b))) m) : MtX yX12_twoOf cX12_twoOf 3 (some .int) (d + 1) [vi 42, vi a, vi b] m Q := by
  refine Y_met rfl 0 rfl (sg_X12_twoOf_0 _ _ _ _ _ ?_)
  simp only [Int.reduceEq, false_implies, true_implies, true_and, and_true, Int.reduceLE, not_true_eq_false, not_false_eq_true, and_self]
  have e : ∀ v, jnF 7 a b = v → Q (some (vi v)) m := fun v e => e ▸ h
  exact ⟨trivial, e _ (by simp [jnF])⟩
theorem cm_two8 (h : Q (some (vi (jnF 8 a b))) m) : MtX yX12_twoOf cX12_twoOf 3 (some .int) (d + 1) [vi 47, vi a, vi b] m Q := by
  refine Y_met rfl 0 rfl (sg_X12_twoOf_0 _ _ _ _ _ ?_)
  simp only [Int.reduceEq, false_implies, true_implies, true_and, and_true, Int.reduceLE, not_true_eq_false, not_false_eq_true, and_self]
  have e : ∀ v, jnF 8 a b = v → Q (some (vi v)) m := fun v e => e ▸ h
  exact ⟨fun c => ⟨fun c2 => ⟨c, trivial, e _ (by simp [jnF, c])⟩, fun c2 => ⟨trivial, e _ (by subst c2; simp [jnF, tdm1])⟩⟩, fun c => ⟨trivial, e _ (by simp [jnF, c])⟩⟩
theorem cm_two9 (h : Q (some (vi (jnF 9 a b))) m) : MtX yX12_twoOf cX12_twoOf 3 (some .int) (d + 1) [vi 37, vi a, vi b] m Q := by
  refine Y_met rfl 0 rfl (sg_X12_twoOf_0 _ _ _ _ _ ?_)
  simp only [Int.reduceEq, false_implies, true_implies, true_and, and_true, Int.reduceLE, not_true_eq_false, not_false_eq_true, and_self]
  have e : ∀ v, jnF 9 a b = v → Q (some (vi v)) m := fun v e => e ▸ h
  exact ⟨fun c => ⟨trivial, e _ (by simp [jnF, c])⟩, fun c => ⟨fun c2 => ⟨c, trivial, e _ (by simp [jnF, c])⟩, fun c2 => ⟨trivial, e _ (by subst c2; simp [jnF, tmm1])⟩⟩⟩
theorem cm_twoOf {j : Int} (hj : 0 ≤ j) (hj2 : j ≤ 9) (h : Q (some (vi (jnF j a b))) m) : MtX yX12_twoOf cX12_twoOf 3 (some .int) (d + 1) [vi (jcF j), vi a, vi b] m Q := by
  have hc : j = 0 ∨ j = 1 ∨ j = 2 ∨ j = 3 ∨ j = 4 ∨ j = 5 ∨ j = 6 ∨ j = 7 ∨ j = 8 ∨ j = 9 := by omega
  rcases hc with rfl | rfl | rfl | rfl | rfl | rfl | rfl | rfl | rfl | rfl
  · exact cm_two0 h
  · exact cm_two1 h
  · exact cm_two2 h
  · exact cm_two3 h
  · exact cm_two4 h
  · exact cm_two5 h
  · exact cm_two6 h
  · exact cm_two7 h
  · exact cm_two8 h
  · exact cm_two9 h
end
