/-! the two texts: String's own methods -/
section
variable {cc : ByteArray} {mL d pc : Nat} {own : String} {sx : Option (List Int)} {ls : ZLs} {st : List AV} {mem : AMem} {Q : Option AV → AMem → Prop}
theorem a_ldcS {ix k : Nat} {tx : String} (hZ : ∀ {ad : ZAd} {A : Nat → Prop} {U : State} {H : Heap}, Rom ad sx A U H → vk_R own ix tx (ad k 0) U) (hk : 0 < kCnt k) (hd : decode cc pc = .ok (.ldc ix, 2)) (h : Y cc mL own d sx (pc + 2) ls (vr k 0 :: st) mem Q) : Y cc mL own d sx pc ls st mem Q := by
  intro p l e R s m args below meth c D cA ad A Qs cells slots C H locs la hP hS hL hl hs hm
  exact va_ldcS C.1.1 C.1.2.1 C.1.2.2.2.1 (hZ C.2.2.2.2.2.1) hd (h p l e R s m args below meth c D cA ad A Qs cells slots C H locs la hP hS hL hl (wfs_c hk hs) hm)
theorem a_strv {ix i : Nat} (hi : i < 2) (hw : Cond.fieldLink own ix "java/lang/String" "value" "[B" ∈ TB) (hd : decode cc pc = .ok (.getfield ix, 3)) (h : Y cc mL own d sx (pc + 3) ls (vr (2030 + i) 0 :: st) mem Q) : Y cc mL own d sx pc ls (vr (2020 + i) 0 :: st) mem Q := by
  intro p l e R s m args below meth c D cA ad A Qs cells slots C H locs la hP hS hL hl hs hm
  have hT := (C.2.2.2.2.2.1.2.2.1.1 i hi).2.2.1
  have hw2 : wfv (vr (2030 + i) 0) := by
    show 0 < kCnt (2030 + i)
    rcases (by omega : i = 0 ∨ i = 1) with rfl | rfl <;> decide
  exact vk_getf C.1.1 C.1.2.1 hT hS C.1.2.2.2.1 (C.1.2.2.2.2 _ hw) (fun _ z => z) hd (h p l e R s m args below meth c D cA ad A Qs cells slots C H locs la hP hS hL hl (wfs_c hw2 (wfs_t hs)) hm)
theorem a_strc {ix i : Nat} (hi : i < 2) (hw : Cond.fieldLink own ix "java/lang/String" "coder" "B" ∈ TB) (hd : decode cc pc = .ok (.getfield ix, 3)) (h : Y cc mL own d sx (pc + 3) ls (vi 0 :: st) mem Q) : Y cc mL own d sx pc ls (vr (2020 + i) 0 :: st) mem Q := by
  intro p l e R s m args below meth c D cA ad A Qs cells slots C H locs la hP hS hL hl hs hm
  have hT := (C.2.2.2.2.2.1.2.2.1.1 i hi).2.1
  exact vk_getf C.1.1 C.1.2.1 hT hS C.1.2.2.2.1 (C.1.2.2.2.2 _ hw) (fun _ z => z) hd (h p l e R s m args below meth c D cA ad A Qs cells slots C H locs la hP hS hL hl (wfs_c ri_0 (wfs_t hs)) hm)
theorem txt_ri : ∀ i, i < 2 → ∀ z : Nat, ri ((romL (2030 + i)).getD z 0) := by
  intro i hi z
  have h : ∀ i, i < 2 → ∀ v ∈ (0 : Int) :: romL (2030 + i), -2147483648 ≤ v ∧ v < 2147483648 := by decide +kernel
  apply h i hi
  rw [List.getD_eq_getElem?_getD]
  cases e : (romL (2030 + i))[z]? with
  | none => exact List.mem_cons_self
  | some v => exact List.mem_cons_of_mem _ (List.mem_of_getElem? e)
theorem a_tbld {i : Nat} {x : Int} (hi : i < 2) (hd : decode cc pc = .ok (.baload, 1)) (h : (0 ≤ x ∧ x < ((romL (2030 + i)).length : Int)) ∧ Y cc mL own d sx (pc + 1) ls (vi ((romL (2030 + i)).getD x.toNat 0) :: st) mem Q) : Y cc mL own d sx pc ls (vi x :: vr (2030 + i) 0 :: st) mem Q := by
  intro p l e R s m args below meth c D cA ad A Qs cells slots C H locs la hP hS hL hl hs hm
  have hx : ri x := wfs_h hs
  have hT := (C.2.2.2.2.2.1.2.2.1.1 i hi).2.2.2
  have e1 : ([6, 10] : List Nat).getD i 0 = (romL (2030 + i)).length := by
    rcases (by omega : i = 0 ∨ i = 1) with rfl | rfl <;> rfl
  have e2 : ∀ z : Nat, (([(romL 2030).map j32, (romL 2031).map j32] : List (List Int32)).getD i []).getD z 0 = j32 ((romL (2030 + i)).getD z 0) := by
    intro z
    have e3 : ([(romL 2030).map j32, (romL 2031).map j32] : List (List Int32)).getD i [] = (romL (2030 + i)).map j32 := by
      rcases (by omega : i = 0 ∨ i = 1) with rfl | rfl <;> rfl
    rw [e3, List.getD_eq_getElem?_getD, List.getElem?_map, List.getD_eq_getElem?_getD]
    cases (romL (2030 + i))[z]? <;> rfl
  rw [e1] at hT
  obtain ⟨g1, g2⟩ := n_in hx h.1.1 h.1.2
  refine va_tb C.1.1 C.1.2.1 hT hS g1 (v := .int (j32 ((romL (2030 + i)).getD x.toNat 0))) ?_ hd (h.2 p l e R s m args below meth c D cA ad A Qs cells slots C H locs la hP hS hL hl (wfs_c (txt_ri i hi _) (wfs_t (wfs_t hs))) hm)
  rw [e2, show (j32 x).toNatClampNeg = x.toNat by omega]
theorem a_tblen {i n : Nat} (hi : i < 2) (hn : (romL (2030 + i)).length = n) (hd : decode cc pc = .ok (.arraylength, 1)) (h : Y cc mL own d sx (pc + 1) ls (vi n :: st) mem Q) : Y cc mL own d sx pc ls (vr (2030 + i) 0 :: st) mem Q := by
  intro p l e R s m args below meth c D cA ad A Qs cells slots C H locs la hP hS hL hl hs hm
  have hT := (C.2.2.2.2.2.1.2.2.1.1 i hi).2.2.2
  have e1 : ([6, 10] : List Nat).getD i 0 = n := by
    rw [← hn]
    rcases (by omega : i = 0 ∨ i = 1) with rfl | rfl <;> rfl
  rw [e1] at hT
  have hb : n ≤ 10 := by
    rw [← e1]
    rcases (by omega : i = 0 ∨ i = 1) with rfl | rfl <;> decide
  have hr : ri (n : Int) := ⟨by omega, by omega⟩
  refine va_tlen C.1.1 C.1.2.1 hT hS (v := j32 n) ?_ hd (h p l e R s m args below meth c D cA ad A Qs cells slots C H locs la hP hS hL hl (wfs_c hr (wfs_t hs)) hm)
  exact Int32.toInt_inj.1 (by rw [t32r hr]; exact nI_toInt (by omega))
theorem a_callT {y : MethodName} {bytes : ByteArray} {mL2 : Nat} {ret : Option FieldType} {n i ix : Nat} (As : List AV) {st0 : List AV} {Q2 : Option AV → AMem → Prop} (d2 : Nat) (hi : i < 2)
    (hy : okName y n) (w1 : Cond.methodLink own ix y ∈ TB) (w2 : Cond.instanceMethod y ∈ TB) (w3 : Cond.selects "java/lang/String" y y ∈ TB) (w4 : Cond.initialized y.cls ∈ TB) (w5 : Cond.code y bytes mL2 ret ∈ TB) (hm2 : mL2 ≤ 41)
    (hd : decode cc pc = .ok (.invokevirtual ix, 3)) (hd2 : d2 + 1 ≤ d) (hn : As.length = n) (hst : st0 = As.reverse ++ vr (2020 + i) 0 :: st) (hcat : catS st ≤ 8)
    (hM : MtX y bytes mL2 ret d2 (vr (2020 + i) 0 :: As) mem Q2) (h : ∀ r mem2, Q2 r mem2 → Y cc mL own d sx (pc + 3) ls (r.toList ++ st) mem2 Q) : Y cc mL own d sx pc ls st0 mem Q := by
  subst hst
  intro p l e R s m args below meth c D cA ad A Qs cells slots C' H locs la hP hS hL hl hs hm
  obtain ⟨hwA, hwS⟩ := z_wfsA hs
  obtain ⟨hA, hPc⟩ := z_callee C' hP hS (av := vr (2020 + i) 0 :: As)
  have hts := C'.1.2.2.2.2
  have hR := C'.2.2.2.2.1
  have hrec := vk_recv (i := i) C'.2.2.2.2.2.1.2.2.1 hi hS
  have hrun := va_runV (g := F0 m pc la ((As.reverse ++ vr (2020 + i) 0 :: st).map (cv ad))) (rest := st.map (cv ad)) (As := As.map (cv ad)) (b := ad (2020 + i) 0) (C := "java/lang/String") (n := n) C'.1 (hM hwA hm l D cA ad H.size)
    (cells := cells) (slots := slots) (below := below) (meth := meth) (e := e) (locs := locs)
    ⟨callB_of (R := R) n hts (z_goodC w5) rfl rfl rfl (hts _ w4) (hts _ w1) hy ⟨by show d2 + 1 ≤ R.frames; omega, by show 8 + (mL2 + 11) + 60 * d2 ≤ R.locals; omega⟩, hts _ w2, hts _ w3⟩
    ⟨z_blind, hrec, hPc⟩ rfl (by rw [List.length_map]; exact hn) hL.1 (by show List.map (cv ad) (As.reverse ++ vr (2020 + i) 0 :: st) = _; rw [List.map_append, List.map_reverse]; rfl) (lv_room (by rw [z_cat]; exact hcat)) hd ⟨hR.2.2.1, hR.2.2.2⟩
  exact z_cont hrun hS hA hA fun r mem2 H1 locs1 hq2 hw2 hm3 hP1 hS1 => h r mem2 hq2 p l e R s m args below meth c D cA ad A Qs cells slots C' H1 locs1 la hP1 hS1 hL hl (z_wfr hw2 hwS) hm3
end
