section
variable {cc : ByteArray} {mL d pc : Nat} {own : String} {sx : Option (List Int)} {ls : ZLs} {st : List AV} {mem : AMem} {Q : Option AV → AMem → Prop}
theorem a_alenI {k j n : Nat} (hk : kArr k = some (.int, n)) (hO : kO k = none) (h2 : k < 2000) (hv : Int32.ofNat n = j32 n) (hr : ri n) (hd : decode cc pc = .ok (.arraylength, 1)) (h : Y cc mL own d sx (pc + 1) ls (vi n :: st) mem Q) : Y cc mL own d sx pc ls (vr k j :: st) mem Q := by
  intro p l e R s m args below meth c D cA ad A Qs cells slots C H locs la hP hS hL hl hs hm
  have hq : (k, j) ∈ LV := LV_mem h2 (wfs_h hs)
  obtain ⟨q0, h0, h1⟩ := ws_at (cA := cA) (ad := ad) hq
  have he := h1 mem
  rw [z_ceA hO hk] at he
  exact va_alen C.1.1 C.1.2.1 C.2.1 hP q0 0 he rfl hv hd (h p l e R s m args below meth c D cA ad A Qs cells slots C H locs la hP hS hL hl (wfs_c hr (wfs_t hs)) hm)
theorem a_alenL {k j n : Nat} (hk : kArr k = some (.long, n)) (hO : kO k = none) (h2 : k < 2000) (hv : Int32.ofNat n = j32 n) (hr : ri n) (hd : decode cc pc = .ok (.arraylength, 1)) (h : Y cc mL own d sx (pc + 1) ls (vi n :: st) mem Q) : Y cc mL own d sx pc ls (vr k j :: st) mem Q := by
  intro p l e R s m args below meth c D cA ad A Qs cells slots C H locs la hP hS hL hl hs hm
  have hq : (k, j) ∈ LV := LV_mem h2 (wfs_h hs)
  obtain ⟨q0, h0, h1⟩ := ws_at (cA := cA) (ad := ad) hq
  have he := h1 mem
  rw [z_ceA hO hk] at he
  exact va_alen C.1.1 C.1.2.1 C.2.1 hP q0 3 he rfl hv hd (h p l e R s m args below meth c D cA ad A Qs cells slots C H locs la hP hS hL hl (wfs_c hr (wfs_t hs)) hm)
theorem a_levels {j : Nat} {i : Int} (hd : decode cc pc = .ok (.aaload, 1)) (h : (0 ≤ i ∧ i < 6) ∧ Y cc mL own d sx (pc + 1) ls (vr 7 (i + 1).toNat :: st) mem Q) : Y cc mL own d sx pc ls (vi i :: vr 900 j :: st) mem Q := by
  intro p l e R s m args below meth c D cA ad A Qs cells slots C H locs la hP hS hL hl hs hm
  have hi : ri i := wfs_h hs
  have hq : (900, j) ∈ LV := LV_mem (by decide) (wfs_h (wfs_t hs))
  obtain ⟨q0, h0, h1⟩ := ws_at (cA := cA) (ad := ad) hq
  have he := h1 mem
  rw [z_ceA (k := 900) rfl rfl] at he
  have hb := h.1
  obtain ⟨g1, g2⟩ := n_in (n := 6) hi hb.1 hb.2
  refine va_aldq C.1.1 C.1.2.1 C.2.1 hP q0 4 he rfl g1 hd ?_
  have e9 : va_rf (some (ad (kR 900 (((j32 i).toNatClampNeg : Nat) : Int)).1 (kR 900 (((j32 i).toNatClampNeg : Nat) : Int)).2)) = cv ad (vr 7 (i + 1).toNat) := by rw [g2]; rfl
  rw [e9]
  exact h.2 p l e R s m args below meth c D cA ad A Qs cells slots C H locs la hP hS hL hl (wfs_c (show (i + 1).toNat < 7 by omega) (wfs_t (wfs_t hs))) hm
theorem a_shelves {j : Nat} {i : Int} (hd : decode cc pc = .ok (.aaload, 1)) (h : (0 ≤ i ∧ i < 6) ∧ Y cc mL own d sx (pc + 1) ls (vr 10 i.toNat :: st) mem Q) : Y cc mL own d sx pc ls (vi i :: vr 1208 j :: st) mem Q := by
  intro p l e R s m args below meth c D cA ad A Qs cells slots C H locs la hP hS hL hl hs hm
  have hi : ri i := wfs_h hs
  have hq : (1208, j) ∈ LV := LV_mem (by decide) (wfs_h (wfs_t hs))
  obtain ⟨q0, h0, h1⟩ := ws_at (cA := cA) (ad := ad) hq
  have he := h1 mem
  rw [z_ceA (k := 1208) rfl rfl] at he
  have hb := h.1
  obtain ⟨g1, g2⟩ := n_in (n := 6) hi hb.1 hb.2
  refine va_aldq C.1.1 C.1.2.1 C.2.1 hP q0 5 he rfl g1 hd ?_
  have e9 : va_rf (some (ad (kR 1208 (((j32 i).toNatClampNeg : Nat) : Int)).1 (kR 1208 (((j32 i).toNatClampNeg : Nat) : Int)).2)) = cv ad (vr 10 i.toNat) := by rw [g2]; rfl
  rw [e9]
  exact h.2 p l e R s m args below meth c D cA ad A Qs cells slots C H locs la hP hS hL hl (wfs_c (show i.toNat < 6 by omega) (wfs_t (wfs_t hs))) hm
/-- static fields -/
theorem a_gets {k ix : Nat} {Cn nm ds : String} (hZ : ∀ {ad : ZAd} {A : Nat → Prop} {U : State} {H : Heap}, Rom ad sx A U H → va_Z Cn nm ds (.ref (ad k 0)) A U H) (hw : Cond.fieldLink own ix Cn nm ds ∈ TB) (hk : 0 < kCnt k) (hd : decode cc pc = .ok (.getstatic ix, 3)) (h : Y cc mL own d sx (pc + 3) ls (vr k 0 :: st) mem Q) : Y cc mL own d sx pc ls st mem Q := by
  intro p l e R s m args below meth c D cA ad A Qs cells slots C H locs la hP hS hL hl hs hm
  exact va_gets C.1.1 C.1.2.1 (hZ C.2.2.2.2.2.1) hS C.1.2.2.2.1 (C.1.2.2.2.2 _ hw) (fun _ z => z) hd (h p l e R s m args below meth c D cA ad A Qs cells slots C H locs la hP hS hL hl (wfs_c hk hs) hm)
theorem a_compact {ix : Nat} (hw : Cond.fieldLink own ix "java/lang/String" "COMPACT_STRINGS" "Z" ∈ TB) (hd : decode cc pc = .ok (.getstatic ix, 3)) (h : Y cc mL own d sx (pc + 3) ls (vi 1 :: st) mem Q) : Y cc mL own d sx pc ls st mem Q := by
  intro p l e R s m args below meth c D cA ad A Qs cells slots C H locs la hP hS hL hl hs hm
  exact va_gets C.1.1 C.1.2.1 C.2.2.2.2.2.1.2.1.2.2.2.2.2 hS C.1.2.2.2.1 (C.1.2.2.2.2 _ hw) (fun _ z => z) hd (h p l e R s m args below meth c D cA ad A Qs cells slots C H locs la hP hS hL hl (wfs_c ⟨by decide, by decide⟩ hs) hm)
theorem rom_ri : ∀ k ∈ romK, ∀ i : Nat, ri ((romL k).getD i 0) := by
  intro k hk i
  have h : ∀ k ∈ romK, ∀ v ∈ (0 : Int) :: romL k, -2147483648 ≤ v ∧ v < 2147483648 := by decide +kernel
  apply h k hk
  rw [List.getD_eq_getElem?_getD]
  cases e : (romL k)[i]? with
  | none => exact List.mem_cons_self
  | some v => exact List.mem_cons_of_mem _ (List.mem_of_getElem? e)
theorem a_rom {k : Nat} {i : Int} (hk : k ∈ romK) (hd : decode cc pc = .ok (.iaload, 1)) (h : (0 ≤ i ∧ i < ((romL k).length : Int)) ∧ Y cc mL own d sx (pc + 1) ls (vi ((romL k).getD i.toNat 0) :: st) mem Q) : Y cc mL own d sx pc ls (vi i :: vr k 0 :: st) mem Q := by
  intro p l e R s m args below meth c D cA ad A Qs cells slots C H locs la hP hS hL hl hs hm
  have hi : ri i := wfs_h hs
  obtain ⟨g1, g2⟩ := n_in hi h.1.1 h.1.2
  refine va_ti C.1.1 C.1.2.1 (C.2.2.2.2.2.1.1 k hk) hS g1 (v := .int (j32 ((romL k).getD i.toNat 0))) ?_ hd (h.2 p l e R s m args below meth c D cA ad A Qs cells slots C H locs la hP hS hL hl (wfs_c (rom_ri k hk _) (wfs_t (wfs_t hs))) hm)
  rw [show (j32 i).toNatClampNeg = i.toNat by omega]
theorem a_script {L : List Int} {i : Int} (hx : sx = some L) (hL0 : ∀ v ∈ L, ri v) (hd : decode cc pc = .ok (.iaload, 1)) (h : (0 ≤ i ∧ i < (L.length : Int)) ∧ Y cc mL own d sx (pc + 1) ls (vi (L.getD i.toNat 0) :: st) mem Q) : Y cc mL own d sx pc ls (vi i :: vr 2010 0 :: st) mem Q := by
  intro p l e R s m args below meth c D cA ad A Qs cells slots C H locs la hP hS hL hl hs hm
  have hi : ri i := wfs_h hs
  obtain ⟨g1, g2⟩ := n_in hi h.1.1 h.1.2
  have hr : ri (L.getD i.toNat 0) := by
    rw [List.getD_eq_getElem?_getD]
    cases e : L[i.toNat]? with
    | none => exact ri_0
    | some v => exact hL0 _ (List.mem_of_getElem? e)
  refine va_ti C.1.1 C.1.2.1 (C.2.2.2.2.2.1.2.2.2.2 L hx) hS g1 (v := .int (j32 (L.getD i.toNat 0))) ?_ hd (h.2 p l e R s m args below meth c D cA ad A Qs cells slots C H locs la hP hS hL hl (wfs_c hr (wfs_t (wfs_t hs))) hm)
  rw [show (j32 i).toNatClampNeg = i.toNat by omega]
theorem a_slen {L : List Int} (hx : sx = some L) (hn : L.length < 2000000) (hd : decode cc pc = .ok (.arraylength, 1)) (h : Y cc mL own d sx (pc + 1) ls (vi L.length :: st) mem Q) : Y cc mL own d sx pc ls (vr 2010 0 :: st) mem Q := by
  intro p l e R s m args below meth c D cA ad A Qs cells slots C H locs la hP hS hL hl hs hm
  have hr : ri (L.length : Int) := ⟨by omega, by omega⟩
  refine va_tlen C.1.1 C.1.2.1 (C.2.2.2.2.2.1.2.2.2.2 L hx) hS (v := j32 L.length) ?_ hd (h p l e R s m args below meth c D cA ad A Qs cells slots C H locs la hP hS hL hl (wfs_c hr (wfs_t hs)) hm)
  exact Int32.toInt_inj.1 (by rw [t32r hr]; exact nI_toInt (by omega))
/-- Math -/
theorem a_max {x y : Int} {ix : Nat} (w1 : Cond.methodLink own ix Lib.Math.max.name ∈ TB) (w2 : Cond.static Lib.Math.max.name ∈ TB) (w3 : Cond.initialized "java/lang/Math" ∈ TB) (w4 : Cond.code Lib.Math.max.name Lib.Math.max.code 2 (some .int) ∈ TB) (hd1 : 1 ≤ d) (hcat : catS st ≤ 40) (hd : decode cc pc = .ok (.invokestatic ix, 3)) (h : Y cc mL own d sx (pc + 3) ls (vi (max x y) :: st) mem Q) : Y cc mL own d sx pc ls (vi y :: vi x :: st) mem Q := by
  intro p l e R s m args below meth c D cA ad A Qs cells slots C H locs la hP hS hL hl hs hm
  have hx : ri x := wfs_h (wfs_t hs)
  have hy : ri y := wfs_h hs
  have hts := C.1.2.2.2.2
  have hR := C.2.2.2.2.1
  refine va_mmax C.1.1 C.1.2.1 (C.1.2.2.1.trans hL.1.symm) C.1.2.2.2.1 (hts _ w1) (hts _ w2) (hts _ w3) (hts _ w4) (by omega) (by rw [z_cat]; omega) hR.2.2.1 hR.2.2.2 hd ?_
  have e9 : (if j32 x < j32 y then j32 y else j32 x) = j32 (max x y) := by
    rw [Int.max_def]
    by_cases g : x < y
    · rw [if_pos ((i32_lt hx hy).mpr g), if_pos (by omega)]
    · rw [if_neg (fun q => g ((i32_lt hx hy).mp q))]
      by_cases g2 : x ≤ y
      · rw [if_pos g2, show x = y by omega]
      · rw [if_neg g2]
  rw [e9]
  exact h p l e R s m args below meth c D cA ad A Qs cells slots C H locs la hP hS hL hl (wfs_c (show ri (max x y) from ⟨by have := hx.1; omega, by have := hx.2; have := hy.2; omega⟩) (wfs_t (wfs_t hs))) hm
theorem a_min {x y : Int} {ix : Nat} (w1 : Cond.methodLink own ix Lib.Math.min.name ∈ TB) (w2 : Cond.static Lib.Math.min.name ∈ TB) (w3 : Cond.initialized "java/lang/Math" ∈ TB) (w4 : Cond.code Lib.Math.min.name Lib.Math.min.code 2 (some .int) ∈ TB) (hd1 : 1 ≤ d) (hcat : catS st ≤ 40) (hd : decode cc pc = .ok (.invokestatic ix, 3)) (h : Y cc mL own d sx (pc + 3) ls (vi (min x y) :: st) mem Q) : Y cc mL own d sx pc ls (vi y :: vi x :: st) mem Q := by
  intro p l e R s m args below meth c D cA ad A Qs cells slots C H locs la hP hS hL hl hs hm
  have hx : ri x := wfs_h (wfs_t hs)
  have hy : ri y := wfs_h hs
  have hts := C.1.2.2.2.2
  have hR := C.2.2.2.2.1
  refine va_mmin C.1.1 C.1.2.1 (C.1.2.2.1.trans hL.1.symm) C.1.2.2.2.1 (hts _ w1) (hts _ w2) (hts _ w3) (hts _ w4) (by omega) (by rw [z_cat]; omega) hR.2.2.1 hR.2.2.2 hd ?_
  have e9 : (if j32 y < j32 x then j32 y else j32 x) = j32 (min x y) := by
    rw [Int.min_def]
    by_cases g : y < x
    · rw [if_pos ((i32_lt hy hx).mpr g), if_neg (by omega)]
    · rw [if_neg (fun q => g ((i32_lt hy hx).mp q)), if_pos (by omega)]
  first | rw [e9] | (rw [show (if j32 x ≤ j32 y then j32 x else j32 y) = j32 (min x y) from by rw [Int.min_def]; by_cases g : x ≤ y; · rw [if_pos ((i32_le hx hy).mpr g), if_pos g]; · rw [if_neg (fun q => g ((i32_le hx hy).mp q)), if_neg g]])
  exact h p l e R s m args below meth c D cA ad A Qs cells slots C H locs la hP hS hL hl (wfs_c (show ri (min x y) from ⟨by have := hx.1; have := hy.1; omega, by have := hx.2; omega⟩) (wfs_t (wfs_t hs))) hm
def ab32 (x : Int) : Int := if 0 ≤ x then x else w32 (-x)
theorem a_abs {x : Int} {ix : Nat} (w1 : Cond.methodLink own ix Lib.Math.abs.name ∈ TB) (w2 : Cond.static Lib.Math.abs.name ∈ TB) (w3 : Cond.initialized "java/lang/Math" ∈ TB) (w4 : Cond.code Lib.Math.abs.name Lib.Math.abs.code 1 (some .int) ∈ TB) (hd1 : 1 ≤ d) (hcat : catS st ≤ 40) (hd : decode cc pc = .ok (.invokestatic ix, 3)) (h : Y cc mL own d sx (pc + 3) ls (vi (ab32 x) :: st) mem Q) : Y cc mL own d sx pc ls (vi x :: st) mem Q := by
  intro p l e R s m args below meth c D cA ad A Qs cells slots C H locs la hP hS hL hl hs hm
  have hx : ri x := wfs_h hs
  have hts := C.1.2.2.2.2
  have hR := C.2.2.2.2.1
  refine va_mabs C.1.1 C.1.2.1 (C.1.2.2.1.trans hL.1.symm) C.1.2.2.2.1 (hts _ w1) (hts _ w2) (hts _ w3) (hts _ w4) (by omega) (by rw [z_cat]; omega) hR.2.2.1 hR.2.2.2 hd ?_
  have e9 : (if 0 ≤ j32 x then j32 x else 0 - j32 x) = j32 (ab32 x) := by
    unfold ab32
    have gz : (0 : Int32) ≤ j32 x ↔ 0 ≤ x := i32_le ri_0 hx
    by_cases g : 0 ≤ x
    · rw [if_pos (gz.mpr g), if_pos g]
    · rw [if_neg (fun q => g (gz.mp q)), if_neg g, n_neg]
      exact Int32.toInt_inj.1 (by rw [Int32.toInt_sub, Int32.toInt_neg]; simp)
  rw [e9]
  exact h p l e R s m args below meth c D cA ad A Qs cells slots C H locs la hP hS hL hl (wfs_c (show ri (ab32 x) by unfold ab32; split; exact hx; exact ri_wr _) (wfs_t hs)) hm
/-- System.arraycopy -/
def cpM (mem : AMem) (k j : Nat) (dp : Int) (ks js : Nat) (sp n : Int) : AMem := fun k2 j2 i => if k2 = k then if j2 = j then if dp ≤ i ∧ i < dp + n then mem ks js (sp + (i - dp)) else mem k2 j2 i else mem k2 j2 i else mem k2 j2 i
theorem cp_ne {mem : AMem} {k j ks js : Nat} {dp sp n : Int} {q : Nat × Nat} (h : q ≠ (k, j)) : cpM mem k j dp ks js sp n q.1 q.2 = mem q.1 q.2 := by
  funext i2
  unfold cpM
  by_cases h1 : q.1 = k
  · by_cases h2 : q.2 = j
    · exact absurd (Prod.ext h1 h2) h
    · simp [h1, h2]
  · simp [h1]
theorem cp_eq {mem : AMem} {k j ks js : Nat} {dp sp n i : Int} : cpM mem k j dp ks js sp n k j i = if dp ≤ i ∧ i < dp + n then mem ks js (sp + (i - dp)) else mem k j i := by simp [cpM]
theorem wfm_cp {mem : AMem} (h : wfm mem) {k j ks js : Nat} {dp sp n : Int} (hk : 13 ≤ k) (hl : kLng k = kLng ks) : wfm (cpM mem k j dp ks js sp n) := by
  refine ⟨fun k1 j1 i1 e => ?_, fun k1 j1 i1 e => ?_, fun k1 j1 s k2 e => ?_⟩
  · unfold cpM
    split
    · rename_i e1
      subst e1
      rw [hl] at e
      split
      · split
        · exact h.1 _ _ _ e
        · exact h.1 _ _ _ (hl ▸ e)
      · exact h.1 _ _ _ (hl ▸ e)
    · exact h.1 _ _ _ e
  · unfold cpM
    split
    · rename_i e1
      subst e1
      rw [hl] at e
      split
      · split
        · exact h.2.1 _ _ _ e
        · exact h.2.1 _ _ _ (hl ▸ e)
      · exact h.2.1 _ _ _ (hl ▸ e)
    · exact h.2.1 _ _ _ e
  · unfold cpM
    split
    · rename_i e1
      subst e1
      rw [z_fk hk] at e
      cases e
    · exact h.2.2 _ _ _ _ e
theorem a_copyI {k j n ks js ns ix : Nat} {sp dp len : Int} (hk : kArr k = some (.int, n)) (hO : kO k = none) (h2 : k < 2000) (hks : kArr ks = some (.int, ns)) (hOs : kO ks = none) (h2s : ks < 2000) (hkg : 13 ≤ k) (hg : kLng k = false) (hgs : kLng ks = false)
    (w1 : Cond.methodLink own ix arraycopyName ∈ TB) (w2 : Cond.native arraycopyName ∈ TB) (w3 : Cond.static arraycopyName ∈ TB) (w4 : Cond.initialized "java/lang/System" ∈ TB) (hd1 : 1 ≤ d) (hcat : catS st + (nativeFrameWords "java/lang/System" "arraycopy" 5 + 11) ≤ 60) (hd : decode cc pc = .ok (.invokestatic ix, 3))
    (h : (0 ≤ sp ∧ 0 ≤ dp ∧ 0 ≤ len ∧ sp + len ≤ (ns : Int) ∧ dp + len ≤ (n : Int)) ∧ Y cc mL own d sx (pc + 3) ls st (cpM mem k j dp ks js sp len) Q) : Y cc mL own d sx pc ls (vi len :: vi dp :: vr k j :: vi sp :: vr ks js :: st) mem Q := by
  intro p l e R s m args below meth c D cA ad A Qs cells slots C H locs la hP hS hL hl hs hm
  have hr1 : ri len := wfs_h hs
  have hr2 : ri dp := wfs_h (wfs_t hs)
  have hr3 : ri sp := wfs_h (wfs_t (wfs_t (wfs_t hs)))
  have hj : j < kCnt k := wfs_h (wfs_t (wfs_t hs))
  have hjs : js < kCnt ks := wfs_h (wfs_t (wfs_t (wfs_t (wfs_t hs))))
  obtain ⟨q1, h01, h11⟩ := ws_at (cA := cA) (ad := ad) (LV_mem h2 hj)
  obtain ⟨q0, h00, h10⟩ := ws_at (cA := cA) (ad := ad) (LV_mem h2s hjs)
  have he1 := h11 mem
  rw [z_ceA hO hk] at he1
  have he0 := h10 mem
  rw [z_ceA hOs hks] at he0
  have hts := C.1.2.2.2.2
  have hR := C.2.2.2.2.1
  obtain ⟨⟨c1, c2, c3, c4, c5⟩, hY⟩ := h
  have e1 : (j32 len).toNatClampNeg = len.toNat := by rw [Int32.toNatClampNeg, t32r hr1]
  have e2 : (j32 dp).toNatClampNeg = dp.toNat := by rw [Int32.toNatClampNeg, t32r hr2]
  have e3 : (j32 sp).toNatClampNeg = sp.toNat := by rw [Int32.toNatClampNeg, t32r hr3]
  refine va_copyi (ty := .int) C.1.1 C.1.2.1 (C.1.2.2.1.trans hL.1.symm) C.1.2.2.2.1 (hts _ w1) (hts _ w2) (hts _ w3) (hts _ w4) C.2.1 hP (C.2.2.1 mem) hS q0 q1 0 0 he0 he1 rfl rfl rfl (fun q => by have := (i32_lt hr3 ri_0).mp q; omega) (fun q => by have := (i32_lt hr2 ri_0).mp q; omega) (fun q => by have := (i32_lt hr1 ri_0).mp q; omega) (by rw [e1, e3]; show _ ≤ ns; omega) (by rw [e1, e2]; show _ ≤ n; omega) (fun _ _ => rfl) (by omega) (by rw [z_cat]; omega) hd (fun H1 locs1 hP1 _ hS1 => ?_)
  have e9 : ce cA ad (cpM mem k j dp ks js sp len) (k, j) = .inl (cA .int, n, .inl (va_cpy (fun z : Nat => j32 (mem ks js z)) (fun z : Nat => j32 (mem k j z)) (j32 sp).toNatClampNeg (j32 dp).toNatClampNeg (j32 len).toNatClampNeg)) := by
    rw [z_ceA hO hk, e1, e2, e3]
    refine congrArg (fun f => (Sum.inl (cA .int, n, Sum.inl f) : va_E)) ?_
    funext z
    simp only [cp_eq, va_cpy]
    by_cases hz : dp ≤ (z : Int) ∧ (z : Int) < dp + len
    · rw [if_pos hz, if_pos (by omega), show sp + ((z : Int) - dp) = ((sp.toNat + (z - dp.toNat) : Nat) : Int) by omega]
    · rw [if_neg hz, if_neg (by omega)]
  rw [← e9, ws_set (q := (k, j)) h01 (fun p hp => cp_ne hp)] at hP1
  exact hY p l e R s m args below meth c D cA ad A Qs cells slots C H1 locs1 la hP1 hS1 hL hl (wfs_t (wfs_t (wfs_t (wfs_t (wfs_t hs))))) (wfm_cp hm hkg (by rw [hg, hgs]))
theorem a_copyL {k j n ks js ns ix : Nat} {sp dp len : Int} (hk : kArr k = some (.long, n)) (hO : kO k = none) (h2 : k < 2000) (hks : kArr ks = some (.long, ns)) (hOs : kO ks = none) (h2s : ks < 2000) (hkg : 13 ≤ k) (hg : kLng k = true) (hgs : kLng ks = true)
    (w1 : Cond.methodLink own ix arraycopyName ∈ TB) (w2 : Cond.native arraycopyName ∈ TB) (w3 : Cond.static arraycopyName ∈ TB) (w4 : Cond.initialized "java/lang/System" ∈ TB) (hd1 : 1 ≤ d) (hcat : catS st + (nativeFrameWords "java/lang/System" "arraycopy" 5 + 11) ≤ 60) (hd : decode cc pc = .ok (.invokestatic ix, 3))
    (h : (0 ≤ sp ∧ 0 ≤ dp ∧ 0 ≤ len ∧ sp + len ≤ (ns : Int) ∧ dp + len ≤ (n : Int)) ∧ Y cc mL own d sx (pc + 3) ls st (cpM mem k j dp ks js sp len) Q) : Y cc mL own d sx pc ls (vi len :: vi dp :: vr k j :: vi sp :: vr ks js :: st) mem Q := by
  intro p l e R s m args below meth c D cA ad A Qs cells slots C H locs la hP hS hL hl hs hm
  have hr1 : ri len := wfs_h hs
  have hr2 : ri dp := wfs_h (wfs_t hs)
  have hr3 : ri sp := wfs_h (wfs_t (wfs_t (wfs_t hs)))
  have hj : j < kCnt k := wfs_h (wfs_t (wfs_t hs))
  have hjs : js < kCnt ks := wfs_h (wfs_t (wfs_t (wfs_t (wfs_t hs))))
  obtain ⟨q1, h01, h11⟩ := ws_at (cA := cA) (ad := ad) (LV_mem h2 hj)
  obtain ⟨q0, h00, h10⟩ := ws_at (cA := cA) (ad := ad) (LV_mem h2s hjs)
  have he1 := h11 mem
  rw [z_ceA hO hk] at he1
  have he0 := h10 mem
  rw [z_ceA hOs hks] at he0
  have hts := C.1.2.2.2.2
  have hR := C.2.2.2.2.1
  obtain ⟨⟨c1, c2, c3, c4, c5⟩, hY⟩ := h
  have e1 : (j32 len).toNatClampNeg = len.toNat := by rw [Int32.toNatClampNeg, t32r hr1]
  have e2 : (j32 dp).toNatClampNeg = dp.toNat := by rw [Int32.toNatClampNeg, t32r hr2]
  have e3 : (j32 sp).toNatClampNeg = sp.toNat := by rw [Int32.toNatClampNeg, t32r hr3]
  refine va_copyl (ty := .long) C.1.1 C.1.2.1 (C.1.2.2.1.trans hL.1.symm) C.1.2.2.2.1 (hts _ w1) (hts _ w2) (hts _ w3) (hts _ w4) C.2.1 hP (C.2.2.1 mem) hS q0 q1 3 3 he0 he1 rfl rfl rfl (fun q => by have := (i32_lt hr3 ri_0).mp q; omega) (fun q => by have := (i32_lt hr2 ri_0).mp q; omega) (fun q => by have := (i32_lt hr1 ri_0).mp q; omega) (by rw [e1, e3]; show _ ≤ ns; omega) (by rw [e1, e2]; show _ ≤ n; omega) (fun _ _ => rfl) (by omega) (by rw [z_cat]; omega) hd (fun H1 locs1 hP1 _ hS1 => ?_)
  have e9 : ce cA ad (cpM mem k j dp ks js sp len) (k, j) = .inl (cA .long, n, .inr (.inl (va_cpy (fun z : Nat => j64 (mem ks js z)) (fun z : Nat => j64 (mem k j z)) (j32 sp).toNatClampNeg (j32 dp).toNatClampNeg (j32 len).toNatClampNeg))) := by
    rw [z_ceA hO hk, e1, e2, e3]
    refine congrArg (fun f => (Sum.inl (cA .long, n, Sum.inr (Sum.inl f)) : va_E)) ?_
    funext z
    simp only [cp_eq, va_cpy]
    by_cases hz : dp ≤ (z : Int) ∧ (z : Int) < dp + len
    · rw [if_pos hz, if_pos (by omega), show sp + ((z : Int) - dp) = ((sp.toNat + (z - dp.toNat) : Nat) : Int) by omega]
    · rw [if_neg hz, if_neg (by omega)]
  rw [← e9, ws_set (q := (k, j)) h01 (fun p hp => cp_ne hp)] at hP1
  exact hY p l e R s m args below meth c D cA ad A Qs cells slots C H1 locs1 la hP1 hS1 hL hl (wfs_t (wfs_t (wfs_t (wfs_t (wfs_t hs))))) (wfm_cp hm hkg (by rw [hg, hgs]))
end
