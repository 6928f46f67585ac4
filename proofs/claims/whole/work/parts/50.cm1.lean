theorem w32e (z : Int) : w32 z = (z + 2147483648) % 4294967296 - 2147483648 := by
  unfold w32 Int.bmod
  dsimp only
  split <;> omega
theorem cm_in {d : Nat} {v lo hi : Int} {mem : AMem} {Q : Option AV → AMem → Prop} (h : ∀ x : Int, (x = 1 ∧ lo ≤ v ∧ v ≤ hi ∨ x = 0 ∧ ¬ (lo ≤ v ∧ v ≤ hi)) → Q (some (vi x)) mem) : MtX yX12_in cX12_in 3 (some .boolean) (d + 1) [vi v, vi lo, vi hi] mem Q :=
  Y_met rfl 0 rfl (sg_X12_in_0 _ _ _ _ _ ⟨fun c => ⟨Or.inl rfl, h 0 (by omega)⟩, fun c => ⟨fun c2 => ⟨Or.inl rfl, h 0 (by omega)⟩, fun c2 => ⟨Or.inr rfl, h 1 (by omega)⟩⟩⟩)
theorem cm_isDefender {d : Nat} {v : Int} {mem : AMem} {Q : Option AV → AMem → Prop} (hn : 0 ≤ mem 12 0 1 ∧ mem 12 0 1 ≤ 7) (h : ∀ x : Int, (x = 1 ∧ 0 ≤ v ∧ v < mem 12 0 1 ∨ x = 0 ∧ ¬ (0 ≤ v ∧ v < mem 12 0 1)) → Q (some (vi x)) mem) : MtX yX12_isDefender cX12_isDefender 2 (some .boolean) (d + 2) [vr 12 0, vi v] mem Q :=
  Y_met rfl 0 rfl (sg_X12_isDefender_0 _ _ _ (cm_in fun x hx => ⟨x, rfl, by simp only [rk]; omega, h x (by simp only [w32e] at hx; omega)⟩))
theorem cm_isColumn {d : Nat} {v : Int} {mem : AMem} {Q : Option AV → AMem → Prop} (h : ∀ x : Int, (x = 1 ∧ 0 ≤ v ∧ v ≤ 8 ∨ x = 0 ∧ ¬ (0 ≤ v ∧ v ≤ 8)) → Q (some (vi x)) mem) : MtX yX12_isColumn cX12_isColumn 1 (some .boolean) (d + 2) [vi v] mem Q :=
  Y_met rfl 0 rfl (sg_X12_isColumn_0 _ _ _ (cm_in fun x hx => ⟨x, rfl, by simp only [rk]; omega, h x hx⟩))
theorem cm_isRow {d : Nat} {v : Int} {mem : AMem} {Q : Option AV → AMem → Prop} (h : ∀ x : Int, (x = 1 ∧ 1 ≤ v ∧ v ≤ 8 ∨ x = 0 ∧ ¬ (1 ≤ v ∧ v ≤ 8)) → Q (some (vi x)) mem) : MtX yX12_isRow cX12_isRow 1 (some .boolean) (d + 2) [vi v] mem Q :=
  Y_met rfl 0 rfl (sg_X12_isRow_0 _ _ _ (cm_in fun x hx => ⟨x, rfl, by simp only [rk]; omega, h x hx⟩))
theorem cm_isShelf {d : Nat} {v : Int} {mem : AMem} {Q : Option AV → AMem → Prop} (h : ∀ x : Int, (x = 1 ∧ 0 ≤ v ∧ v ≤ 5 ∨ x = 0 ∧ ¬ (0 ≤ v ∧ v ≤ 5)) → Q (some (vi x)) mem) : MtX yX12_isShelf cX12_isShelf 1 (some .boolean) (d + 2) [vi v] mem Q :=
  Y_met rfl 0 rfl (sg_X12_isShelf_0 _ _ _ (cm_in fun x hx => ⟨x, rfl, by simp only [rk]; omega, h x hx⟩))
theorem cm_isBody {d : Nat} {v : Int} {mem : AMem} {Q : Option AV → AMem → Prop} (hn : 0 ≤ mem 12 0 55 ∧ mem 12 0 55 ≤ 50) (h : ∀ x : Int, (x = 1 ∧ 0 ≤ v ∧ v < mem 12 0 55 ∨ x = 0 ∧ ¬ (0 ≤ v ∧ v < mem 12 0 55)) → Q (some (vi x)) mem) : MtX yX12_isBody cX12_isBody 2 (some .boolean) (d + 2) [vr 12 0, vi v] mem Q :=
  Y_met rfl 0 rfl (sg_X12_isBody_0 _ _ _ (cm_in fun x hx => ⟨x, rfl, by simp only [rk]; omega, h x (by simp only [w32e] at hx; omega)⟩))
/-- the memory once a defender has come -/
def mAdd (mem : AMem) (c r s : Int) : AMem := upM (upM (upM (upM (upM mem 1302 0 (mem 12 0 1) c) 1303 0 (mem 12 0 1) r) 1304 0 (mem 12 0 1) s) 1305 0 (mem 12 0 1) 1) 12 0 1 (mem 12 0 1 + 1)
theorem cm_addDefender {d : Nat} {c r s : Int} {mem : AMem} {Q : Option AV → AMem → Prop} (hn : 0 ≤ mem 12 0 1 ∧ mem 12 0 1 < 7) (h : Q (some (vi (mem 12 0 1))) (mAdd mem c r s)) : MtX yX12_addDefender cX12_addDefender 4 (some .int) (d + 1) [vr 12 0, vi c, vi r, vi s] mem Q := by
  have e1 : w32 (mem 12 0 1 + 1) = mem 12 0 1 + 1 := by simp only [w32e]; omega
  have e2 : w32 (mem 12 0 1 + 1 - 1) = mem 12 0 1 := by simp only [w32e]; omega
  refine Y_met rfl 0 rfl (sg_X12_addDefender_0 _ _ _ _ _ ?_)
  rw [e1, e2]
  exact ⟨hn, hn, hn, hn, trivial, h⟩
theorem tdiv10 {x : Int} (h : 0 ≤ x) : Int.tdiv x 10 = x / 10 := Int.tdiv_eq_ediv_of_nonneg h
theorem tmod10 {x : Int} (h : 0 ≤ x) : Int.tmod x 10 = x % 10 := Int.tmod_eq_emod_of_nonneg h
/-- a cell by its number -/
def okCell (rc lo : Int) : Prop := 0 ≤ rc ∧ lo ≤ rc / 10 ∧ rc / 10 ≤ 8 ∧ rc % 10 ≤ 8
theorem cm_defender {d : Nat} {rc s : Int} {mem : AMem} {Q : Option AV → AMem → Prop} (hr : ri rc) (hn : 0 ≤ mem 12 0 1 ∧ mem 12 0 1 ≤ 7)
    (hB : ¬ (okCell rc 1 ∧ 0 ≤ s ∧ s ≤ 9) → Q (some (vi (-1))) mem) (hF : okCell rc 1 → 0 ≤ s → s ≤ 9 → mem 12 0 1 = 7 → Q (some (vi (-3))) mem)
    (hO : okCell rc 1 → 0 ≤ s → s ≤ 9 → mem 12 0 1 < 7 → Q (some (vi (mem 12 0 1))) (mAdd mem (rc % 10) (rc / 10) s)) : MtX yX12_defender cX12_defender 3 (some .int) (d + 3) [vr 12 0, vi rc, vi s] mem Q := by
  unfold okCell at *
  have h2 := hr.2
  refine Y_met rfl 0 rfl (sg_X12_defender_0 _ _ _ _ ⟨fun c => ⟨trivial, hB (by omega)⟩, fun c => ?_⟩)
  rw [tdiv10 (by omega), tmod10 (by omega), show w32 (rc / 10) = rc / 10 by simp only [w32e]; omega]
  refine cm_isRow fun x hx => ⟨x, rfl, fun c2 => ⟨trivial, hB (by omega)⟩, fun c2 => ?_⟩
  refine cm_isColumn fun y hy => ⟨y, rfl, fun c3 => ⟨trivial, hB (by omega)⟩, fun c3 => ?_⟩
  refine cm_in fun z hz => ⟨z, rfl, fun c4 => ⟨fun c5 => ?_, fun c5 => ⟨trivial, hF (by omega) (by omega) (by omega) c5⟩⟩, fun c4 => ⟨trivial, hB (by omega)⟩⟩
  exact cm_addDefender (by omega) ⟨_, rfl, trivial, hO (by omega) (by omega) (by omega) (by omega)⟩
