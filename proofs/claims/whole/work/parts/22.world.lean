/-! the layout: kinds of cells. 0..12: objects of class X0..X12; 100 + 100 * class + slot: the array in that final field; 2000 on: what is only read -/
def kO (k : Nat) : Option Nat := if k < 13 then some ([4, 6, 8, 5, 5, 5, 4, 14, 9, 4, 5, 10, 63].getD k 0) else none
def kArr (k : Nat) : Option (FieldType × Nat) := match k with
  | 100 => some (.int, 50)
  | 101 => some (.int, 24)
  | 200 => some (.int, 40)
  | 201 => some (.int, 40)
  | 202 => some (.int, 40)
  | 203 => some (.int, 40)
  | 300 => some (.int, 7)
  | 301 => some (.int, 7)
  | 302 => some (.int, 7)
  | 303 => some (.int, 14)
  | 400 => some (.int, 128)
  | 401 => some (.int, 128)
  | 402 => some (.int, 128)
  | 500 => some (.int, 120)
  | 600 => some (.int, 5)
  | 601 => some (.int, 5)
  | 700 => some (.int, 183)
  | 701 => some (.int, 183)
  | 800 => some (.int, 7)
  | 801 => some (.int, 7)
  | 802 => some (.int, 6)
  | 900 => some (.object "OnOneBreath$Scene", 6)
  | 901 => some (.int, 5)
  | 902 => some (.int, 5)
  | 1000 => some (.int, 2)
  | 1001 => some (.int, 2)
  | 1002 => some (.int, 2)
  | 1003 => some (.int, 14)
  | 1100 => some (.long, 60)
  | 1208 => some (.object "OnOneBreath$Shelf", 6)
  | 1302 => some (.int, 7)
  | 1303 => some (.int, 7)
  | 1304 => some (.int, 7)
  | 1305 => some (.int, 7)
  | 1306 => some (.int, 10)
  | 1309 => some (.int, 40)
  | 1310 => some (.int, 40)
  | 1311 => some (.int, 40)
  | 1312 => some (.int, 40)
  | 1313 => some (.byte, 120)
  | 1319 => some (.byte, 260)
  | 1320 => some (.int, 260)
  | 1321 => some (.int, 2)
  | 1322 => some (.short, 122)
  | 1323 => some (.short, 122)
  | 1324 => some (.int, 6)
  | 1325 => some (.int, 130)
  | 1327 => some (.int, 7)
  | 1328 => some (.int, 7)
  | 1337 => some (.int, 5)
  | 1338 => some (.int, 5)
  | 1342 => some (.int, 429)
  | 1343 => some (.int, 429)
  | 1345 => some (.int, 2)
  | 1346 => some (.int, 2)
  | 1347 => some (.int, 14)
  | 1348 => some (.int, 2)
  | 1350 => some (.int, 5)
  | 1353 => some (.int, 7)
  | 1354 => some (.int, 5)
  | 1356 => some (.int, 50)
  | 1358 => some (.int, 24)
  | 1359 => some (.int, 6)
  | 1360 => some (.int, 6)
  | 1361 => some (.long, 360)
  | 1362 => some (.long, 60)
  | _ => none
def kF (k s : Nat) : Option (Nat × Bool) := match k, s with
  | 0, 0 => some (100, true)
  | 0, 1 => some (101, true)
  | 1, 0 => some (200, true)
  | 1, 1 => some (201, true)
  | 1, 2 => some (202, true)
  | 1, 3 => some (203, true)
  | 2, 0 => some (300, true)
  | 2, 1 => some (301, true)
  | 2, 2 => some (302, true)
  | 2, 3 => some (303, true)
  | 2, 7 => some (3, false)
  | 3, 0 => some (400, true)
  | 3, 1 => some (401, true)
  | 3, 2 => some (402, true)
  | 4, 0 => some (500, true)
  | 4, 4 => some (3, false)
  | 5, 0 => some (600, true)
  | 5, 1 => some (601, true)
  | 6, 0 => some (700, true)
  | 6, 1 => some (701, true)
  | 7, 0 => some (800, true)
  | 7, 1 => some (801, true)
  | 7, 2 => some (802, true)
  | 8, 0 => some (900, true)
  | 8, 1 => some (901, true)
  | 8, 2 => some (902, true)
  | 9, 0 => some (1000, true)
  | 9, 1 => some (1001, true)
  | 9, 2 => some (1002, true)
  | 9, 3 => some (1003, true)
  | 10, 0 => some (1100, true)
  | 11, 0 => some (2, true)
  | 11, 1 => some (7, true)
  | 11, 2 => some (8, true)
  | 11, 3 => some (6, true)
  | 11, 4 => some (9, true)
  | 11, 5 => some (5, true)
  | 11, 6 => some (1, true)
  | 11, 7 => some (0, true)
  | 11, 8 => some (1208, true)
  | 11, 9 => some (4, true)
  | 12, 2 => some (1302, true)
  | 12, 3 => some (1303, true)
  | 12, 4 => some (1304, true)
  | 12, 5 => some (1305, true)
  | 12, 6 => some (1306, true)
  | 12, 9 => some (1309, true)
  | 12, 10 => some (1310, true)
  | 12, 11 => some (1311, true)
  | 12, 12 => some (1312, true)
  | 12, 13 => some (1313, true)
  | 12, 19 => some (1319, true)
  | 12, 20 => some (1320, true)
  | 12, 21 => some (1321, true)
  | 12, 22 => some (1322, true)
  | 12, 23 => some (1323, true)
  | 12, 24 => some (1324, true)
  | 12, 25 => some (1325, true)
  | 12, 27 => some (1327, true)
  | 12, 28 => some (1328, true)
  | 12, 37 => some (1337, true)
  | 12, 38 => some (1338, true)
  | 12, 42 => some (1342, true)
  | 12, 43 => some (1343, true)
  | 12, 45 => some (1345, true)
  | 12, 46 => some (1346, true)
  | 12, 47 => some (1347, true)
  | 12, 48 => some (1348, true)
  | 12, 50 => some (1350, true)
  | 12, 53 => some (1353, true)
  | 12, 54 => some (1354, true)
  | 12, 56 => some (1356, true)
  | 12, 58 => some (1358, true)
  | 12, 59 => some (1359, true)
  | 12, 60 => some (1360, true)
  | 12, 61 => some (1361, true)
  | 12, 62 => some (1362, true)
  | _, _ => none
def kR (k : Nat) (i : Int) : Nat × Nat := if k = 900 then (7, (i + 1).toNat) else (10, i.toNat)
def kCnt (k : Nat) : Nat := if k = 3 ∨ (400 ≤ k ∧ k < 500 ∧ (kArr k).isSome) then 2 else if k = 7 ∨ (800 ≤ k ∧ k < 900 ∧ (kArr k).isSome) then 7 else if k = 10 ∨ (1100 ≤ k ∧ k < 1200 ∧ (kArr k).isSome) then 6 else if k < 13 ∨ (kArr k).isSome ∨ (2000 ≤ k ∧ k < 2040) then 1 else 0
def kAll : List Nat := [0, 1, 2, 3, 4, 5, 6, 7, 8, 9, 10, 11, 12, 100, 101, 200, 201, 202, 203, 300, 301, 302, 303, 400, 401, 402, 500, 600, 601, 700, 701, 800, 801, 802, 900, 901, 902, 1000, 1001, 1002, 1003, 1100, 1208, 1302, 1303, 1304, 1305, 1306, 1309, 1310, 1311, 1312, 1313, 1319, 1320, 1321, 1322, 1323, 1324, 1325, 1327, 1328, 1337, 1338, 1342, 1343, 1345, 1346, 1347, 1348, 1350, 1353, 1354, 1356, 1358, 1359, 1360, 1361, 1362]
def kLng (k : Nat) : Bool := k == 1100 || k == 1361 || k == 1362
def romL (k : Nat) : List Int := match k with
  | 2000 => [8, 8, 9, 1, 60, 3, 40, 8, 8, 12, 12, 12, 12, 12]
  | 2001 => [0, 1, 0, 0, 1, 0, 0, 0, 1, 0, 0, 0, 0, 0]
  | 2002 => [0, 1, 2, 2, 2, 3, 3, 4, 4, 4]
  | 2003 => [-1, 0, 0, 2, 1, 3, 0, 6]
  | 2004 => [1, 10, 11, 2, 20, 0, 0, 0, 0, 30, 0, 0, 0, 41, 40, 0, 0, 0, 0, 50, 0, 0, 60, 61, 70, 0, 0, 0, 81, 80, 0, 0]
  | 2030 => [100, 114, 98, 115, 110, 99]
  | 2031 => [124, 38, 60, 61, 62, 43, 45, 42, 47, 37]
  | _ => []
def LV : List (Nat × Nat) := kAll.flatMap fun k => (List.range (kCnt k)).map fun j => (k, j)
theorem LV_nd : LV.Nodup := by decide +kernel
theorem kinds_all : ∀ k, k < 2000 → kCnt k ≠ 0 → k ∈ kAll := by
  have h : (List.range 2000).all (fun k => kCnt k == 0 || kAll.contains k) = true := by decide +kernel
  intro k hk h0
  have := List.all_eq_true.mp h k (List.mem_range.mpr hk)
  simp only [Bool.or_eq_true, beq_iff_eq, List.contains_iff_mem] at this
  exact this.resolve_left h0
theorem LV_mem {k j : Nat} (hk : k < 2000) (hj : j < kCnt k) : (k, j) ∈ LV :=
  List.mem_flatMap.mpr ⟨k, kinds_all k hk (by omega), List.mem_map.mpr ⟨j, List.mem_range.mpr hj, rfl⟩⟩
/-! the cells of a memory -/
def fv (ad : ZAd) (mem : AMem) (k j s : Nat) : Value := match kF k s with
  | none => .int (j32 (mem k j s))
  | some (k2, true) => .ref (ad k2 j)
  | some (k2, false) => if mem k j s < 0 then .null else .ref (ad k2 (mem k j s).toNat)
abbrev ZCA : Type := FieldType → ClassId
def ae (cA : ZCA) (ad : ZAd) (f : Int → Int) (k : Nat) (t : FieldType × Nat) : va_E := match t.1 with
  | .long => .inl (cA .long, t.2, .inr (.inl fun i => j64 (f i)))
  | .object C => .inl (cA (.object C), t.2, .inr (.inr (.inr (.inr fun i => some (ad (kR k i).1 (kR k i).2)))))
  | ty => .inl (cA ty, t.2, .inl fun i => j32 (f i))
def ce (cA : ZCA) (ad : ZAd) (mem : AMem) (q : Nat × Nat) : va_E := match kO q.1 with
  | some N => .inr (q.1, (List.range N).map (fv ad mem q.1 q.2))
  | none => ae cA ad (mem q.1 q.2) q.1 ((kArr q.1).getD (.int, 0))
def wsW (cA : ZCA) (ad : ZAd) (mem : AMem) : va_W := LV.map fun q => (ad q.1 q.2, ce cA ad mem q)
def tysW (cA : ZCA) : List (ClassId × FieldType) := [(cA .int, .int), (cA .byte, .byte), (cA .short, .short), (cA .long, .long), (cA (.object "OnOneBreath$Scene"), .object "OnOneBreath$Scene"), (cA (.object "OnOneBreath$Shelf"), .object "OnOneBreath$Shelf")]
def upM (mem : AMem) (k j : Nat) (i v : Int) : AMem := fun k2 j2 i2 => if k2 = k then if j2 = j then if i2 = i then v else mem k2 j2 i2 else mem k2 j2 i2 else mem k2 j2 i2
theorem up_ne {mem : AMem} {k j : Nat} {i v : Int} {q : Nat × Nat} (h : q ≠ (k, j)) : upM mem k j i v q.1 q.2 = mem q.1 q.2 := by
  funext i2
  unfold upM
  by_cases h1 : q.1 = k
  · by_cases h2 : q.2 = j
    · exact absurd (Prod.ext h1 h2) h
    · simp [h1, h2]
  · simp [h1]
theorem up_eq {mem : AMem} {k j : Nat} {i v i2 : Int} : upM mem k j i v k j i2 = if i2 = i then v else mem k j i2 := by simp [upM]
theorem fv_congr {ad : ZAd} {mem mem2 : AMem} {k j : Nat} (h : mem2 k j = mem k j) : fv ad mem2 k j = fv ad mem k j := by
  funext s
  unfold fv
  rw [h]
theorem ce_congr {cA : ZCA} {ad : ZAd} {mem mem2 : AMem} {q : Nat × Nat} (h : mem2 q.1 q.2 = mem q.1 q.2) : ce cA ad mem2 q = ce cA ad mem q := by
  unfold ce
  rw [fv_congr h, h]
theorem ws_at {cA : ZCA} {ad : ZAd} {q : Nat × Nat} (h : q ∈ LV) : ∃ q0 : Nat, LV[q0]? = some q ∧ ∀ mem, (wsW cA ad mem)[q0]? = some (ad q.1 q.2, ce cA ad mem q) := by
  obtain ⟨q0, h0⟩ := List.getElem?_of_mem h
  exact ⟨q0, h0, fun mem => by unfold wsW; rw [List.getElem?_map, h0]; rfl⟩
theorem ws_set {cA : ZCA} {ad : ZAd} {mem mem2 : AMem} {q : Nat × Nat} {q0 : Nat} (h0 : LV[q0]? = some q) (h : ∀ p, p ≠ q → mem2 p.1 p.2 = mem p.1 p.2) : (wsW cA ad mem).set q0 (ad q.1 q.2, ce cA ad mem2 q) = wsW cA ad mem2 := by
  apply List.ext_getElem?
  intro i
  rw [List.getElem?_set]
  have hlt : q0 < LV.length := (List.getElem?_eq_some_iff.mp h0).1
  by_cases e : q0 = i
  · subst e
    have hlt2 : q0 < (wsW cA ad mem).length := by unfold wsW; rw [List.length_map]; exact hlt
    rw [if_pos rfl, if_pos hlt2]
    unfold wsW
    rw [List.getElem?_map, h0]
    rfl
  · rw [if_neg e]
    unfold wsW
    rw [List.getElem?_map, List.getElem?_map]
    cases hi : LV[i]? with
    | none => rfl
    | some p =>
      have hp : p ≠ q := by
        intro e2
        subst e2
        obtain ⟨l1, g1⟩ := List.getElem?_eq_some_iff.mp h0
        obtain ⟨l2, g2⟩ := List.getElem?_eq_some_iff.mp hi
        exact e ((List.getElem_inj LV_nd).mp (g1.trans g2.symm))
      show some (ad p.1 p.2, ce cA ad mem p) = some (ad p.1 p.2, ce cA ad mem2 p)
      rw [ce_congr (h p hp)]
/-! values and memories in range -/
def wfv (v : AV) : Prop := match v with
  | .inl x => ri x
  | .inr (.inl x) => rl x
  | .inr (.inr q) => q.2 < kCnt q.1
def wfl (ls : ZLs) : Prop := ∀ v, some v ∈ ls → wfv v
def wfs (st : List AV) : Prop := ∀ v ∈ st, wfv v
def wfm (mem : AMem) : Prop := (∀ k j i, kLng k = false → ri (mem k j i)) ∧ (∀ k j i, kLng k = true → rl (mem k j i)) ∧ ∀ k j s k2, kF k s = some (k2, false) → mem k j s < kCnt k2
theorem wfs_c {v : AV} {st : List AV} (h : wfv v) (hs : wfs st) : wfs (v :: st) := List.forall_mem_cons.mpr ⟨h, hs⟩
theorem wfs_h {v : AV} {st : List AV} (hs : wfs (v :: st)) : wfv v := (List.forall_mem_cons.mp hs).1
theorem wfs_t {v : AV} {st : List AV} (hs : wfs (v :: st)) : wfs st := (List.forall_mem_cons.mp hs).2
theorem wfl_at {ls : ZLs} (h : wfl ls) {i : Nat} {v : AV} (hi : ls[i]? = some (some v)) : wfv v := h v (List.mem_of_getElem? hi)
theorem wfl_set {ls : ZLs} (h : wfl ls) {i : Nat} {v : AV} (hv : wfv v) : wfl (ls.set i (some v)) := by
  intro w hw
  rcases List.mem_or_eq_of_mem_set hw with g | g
  · exact h w g
  · cases g; exact hv
theorem wfl_setn {ls : ZLs} (h : wfl ls) {i : Nat} : wfl (ls.set i none) := by
  intro w hw
  rcases List.mem_or_eq_of_mem_set hw with g | g
  · exact h w g
  · cases g
theorem wfm_up {mem : AMem} (h : wfm mem) {k j : Nat} {i v : Int} (hv : if kLng k = true then rl v else ri v) (hF : ∀ s : Nat, i = s → ∀ k2, kF k s = some (k2, false) → v < kCnt k2) : wfm (upM mem k j i v) := by
  refine ⟨fun k1 j1 i1 e => ?_, fun k1 j1 i1 e => ?_, fun k1 j1 s k2 e => ?_⟩
  · unfold upM
    split
    · rename_i e1
      subst e1
      rw [e] at hv
      split
      · split
        · exact hv
        · exact h.1 _ _ _ e
      · exact h.1 _ _ _ e
    · exact h.1 _ _ _ e
  · unfold upM
    split
    · rename_i e1
      subst e1
      rw [e] at hv
      split
      · split
        · exact hv
        · exact h.2.1 _ _ _ e
      · exact h.2.1 _ _ _ e
    · exact h.2.1 _ _ _ e
  · unfold upM
    split
    · rename_i e1
      subst e1
      split
      · split
        · rename_i e3
          exact hF s e3.symm k2 e
        · exact h.2.2 _ _ _ _ e
      · exact h.2.2 _ _ _ _ e
    · exact h.2.2 _ _ _ _ e
