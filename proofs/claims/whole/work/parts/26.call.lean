section
variable {cc : ByteArray} {mL d pc : Nat} {own : String} {sx : Option (List Int)} {ls : ZLs} {st : List AV} {mem : AMem} {Q : Option AV → AMem → Prop}
def catS : List AV → Nat
  | [] => 0
  | v :: st => (if isL v = true then 2 else 1) + catS st
theorem z_cat (ad : ZAd) (st : List AV) : ((st.map (cv ad)).map fun v => v.category).sum = catS st := by
  induction st with
  | nil => rfl
  | cons v st ih =>
    simp only [List.map_cons, List.sum_cons, catS]
    rw [← ih, cv_cat]
theorem z_blind {av : List AV} {D : va_G} {cA : ZCA} {ad : ZAd} {sz : Nat} : FrameBlind (va_Pc (av.map (cv ad)) (Pw D cA ad mem sz)) := by
  intro a U g mk q
  obtain ⟨q0, q1, q2, q3, q4, q5⟩ := q
  exact ⟨q0, q1, q2, va_K.moved (u := U) (U := U.calling g mk a) (Vm.Alike.refl U.vm) q3, q4, Rom_same (u := U) (U := U.calling g mk a) rfl q5⟩
theorem z_goodC {y : MethodName} {bytes : ByteArray} {mL2 : Nat} {ret : Option FieldType} (w5 : Cond.code y bytes mL2 ret ∈ TB) : GoodIn TB (Cond.code y bytes mL2 ret :: TB) := by
  intro w hw
  rcases List.mem_cons.mp hw with h | h
  · subst h; exact TB_good _ w5
  · exact TB_good _ h
section
variable {p : Program} {l : Launch} {e : Env} {R : Room} {s : State} {m : MethodId} {args : Array Value} {below : List Frame} {meth : Method} {c : Code} {D : va_G} {cA : ZCA} {ad : ZAd} {A : Nat → Prop} {Qs : State → Prop} {cells slots : Nat} {H : Heap} {locs : List Loc}
theorem z_callee (C : Cx cc mL own d sx Q p l e R s m args below meth c D cA ad A Qs cells slots) (hP : va_P D vwCl (wsW cA ad mem) H) (hS : va_S A s.heap H locs) {av : List AV} :
    (∀ q, va_A (wsW cA ad mem) H.size q → A q) ∧ ∀ U : State, U.heap = H → s.WarmedH U.vm → va_Pc (av.map (cv ad)) (Pw D cA ad mem H.size) (av.map (cv ad)).toArray U := by
  have hA : ∀ q, va_A (wsW cA ad mem) H.size q → A q := by
    intro q hq
    rcases wsA.mp hq with ⟨c1, hc, rfl⟩ | h
    · obtain ⟨q0, -, h1⟩ := ws_at (cA := cA) (ad := ad) hc
      exact (C.2.2.1 mem).2 q0 _ (h1 mem)
    · exact C.2.2.2.1 q (Nat.le_trans hS.1 h)
  refine ⟨hA, fun U hU hW => ⟨rfl, by rw [hU], by rw [hU]; exact hP, va_K.moved hW.alike C.2.1, (C.2.2.1 mem).weaken (fun _ _ _ _ => trivial), ?_⟩⟩
  rw [hU]
  exact Rom_warm hW (Rom_narrow (Rom_kept C.2.2.2.2.2.1 hS.2.1) hA)
theorem z_cont {la : Array Slot} {st0 : List Value} {Q2 : Option AV → AMem → Prop} {A1 free : Nat → Prop} {a : Array Value} (hr : va_Run p l e R s m args below meth c H locs cells slots 0 0 (F0 m pc la st0) (st.map (cv ad)) (Qw D cA ad A1 Q2 a) free) (hS : va_S A s.heap H locs) (hA : ∀ q, A1 q → A q) (hf : ∀ q, free q → A q)
    (kk : ∀ (r : Option AV) (mem2 : AMem) (H1 : Heap) (locs1 : List Loc), Q2 r mem2 → (∀ v, r = some v → wfv v) → wfm mem2 → va_P D vwCl (wsW cA ad mem2) H1 → va_S A s.heap H1 locs1 → W p l e R s m args below meth c H1 locs1 cells slots Qs (F0 m (pc + 3) la ((r.toList ++ st).map (cv ad)))) : W p l e R s m args below meth c H locs cells slots Qs (F0 m pc la st0) := by
  intro T hT X
  obtain ⟨v, st₀, t, T', L, h0, X', hL, e1, e2, ⟨⟨r, mem2, hv, hq, hw, hm2, hP2⟩, hz, hk⟩, st9⟩ := hr T hT X
  cases hv
  rw [h0] at hz hk
  obtain ⟨t2, a1, b1⟩ := kk r mem2 T'.heap (locs ++ L) hq hw hm2 (by rw [e1]; exact hP2)
    ⟨Nat.le_trans hS.1 (by rw [e1]; exact hz), fun q h1 h2 => by rw [e1, hk q (Nat.lt_of_lt_of_le h1 hS.1) (fun z => h2 (hA q z))]; exact hS.2.1 q h1 h2, fun q hq => by
      rcases List.mem_append.mp hq with h | h
      · exact hS.2.2 q h
      · exact hf _ (hL q h)⟩ T' rfl X'
  refine ⟨t2, st9 t2 ?_, b1⟩
  have e9 : (r.map (cv ad)).toList ++ st.map (cv ad) = (r.toList ++ st).map (cv ad) := by cases r <;> rfl
  rw [← e9] at a1
  exact a1
end
theorem z_wfsA {As : List AV} {v : AV} {st : List AV} (hs : wfs (As.reverse ++ v :: st)) : (∀ w ∈ v :: As, wfv w) ∧ wfs st := by
  refine ⟨fun w hw => ?_, fun w hw => hs w (List.mem_append_right _ (List.mem_cons_of_mem _ hw))⟩
  rcases List.mem_cons.mp hw with h | h
  · subst h; exact hs _ (List.mem_append_right _ List.mem_cons_self)
  · exact hs _ (List.mem_append_left _ (List.mem_reverse.mpr h))
theorem z_wfsB {As : List AV} {st : List AV} (hs : wfs (As.reverse ++ st)) : (∀ w ∈ As, wfv w) ∧ wfs st :=
  ⟨fun w hw => hs _ (List.mem_append_left _ (List.mem_reverse.mpr hw)), fun w hw => hs w (List.mem_append_right _ hw)⟩
theorem z_wfr {r : Option AV} {st : List AV} (h : ∀ v, r = some v → wfv v) (hs : wfs st) : wfs (r.toList ++ st) := by
  cases r with
  | none => exact hs
  | some v => exact wfs_c (h v rfl) hs
/-- what a method name must be -/
def okName (y : MethodName) (n : Nat) : Prop := y.cls ≠ "java/lang/invoke/MethodHandle" ∧ y.cls ≠ "java/lang/invoke/VarHandle" ∧ (parseMethodDescriptor y.desc).map (fun d => d.parameters.length) = some n
theorem a_callV {y : MethodName} {bytes : ByteArray} {mL2 : Nat} {ret : Option FieldType} {n k j N ix : Nat} {C : String} {T : u_T} (As : List AV) {st0 : List AV} {Q2 : Option AV → AMem → Prop} (d2 : Nat)
    (hcl : vwCl[k]? = some (C, T, N)) (hO : kO k = some N) (hk : k < 13) (hy : okName y n) (w1 : Cond.methodLink own ix y ∈ TB) (w2 : Cond.instanceMethod y ∈ TB) (w3 : Cond.selects C y y ∈ TB) (w4 : Cond.initialized y.cls ∈ TB) (w5 : Cond.code y bytes mL2 ret ∈ TB) (hm2 : mL2 ≤ 41)
    (hd : decode cc pc = .ok (.invokevirtual ix, 3)) (hd2 : d2 + 1 ≤ d) (hn : As.length = n) (hst : st0 = As.reverse ++ vr k j :: st) (hcat : catS st ≤ 8)
    (hM : MtX y bytes mL2 ret d2 (vr k j :: As) mem Q2) (h : ∀ r mem2, Q2 r mem2 → Y cc mL own d sx (pc + 3) ls (r.toList ++ st) mem2 Q) : Y cc mL own d sx pc ls st0 mem Q := by
  subst hst
  intro p l e R s m args below meth c D cA ad A Qs cells slots C' H locs la hP hS hL hl hs hm
  obtain ⟨hwA, hwS⟩ := z_wfsA hs
  obtain ⟨hA, hPc⟩ := z_callee C' hP hS (av := vr k j :: As)
  have hq : (k, j) ∈ LV := LV_mem (by omega) (hwA _ List.mem_cons_self)
  obtain ⟨q0, h0, h1⟩ := ws_at (cA := cA) (ad := ad) hq
  have he := h1 mem
  rw [z_ceO hO] at he
  have hts := C'.1.2.2.2.2
  have hR := C'.2.2.2.2.1
  have hrun := va_runV (g := F0 m pc la ((As.reverse ++ vr k j :: st).map (cv ad))) (rest := st.map (cv ad)) (As := As.map (cv ad)) (b := ad k j) (C := C) (n := n) C'.1 (hM hwA hm l D cA ad H.size)
    (cells := cells) (slots := slots) (below := below) (meth := meth) (e := e) (locs := locs)
    ⟨callB_of (R := R) n hts (z_goodC w5) rfl rfl rfl (hts _ w4) (hts _ w1) hy ⟨by show d2 + 1 ≤ R.frames; omega, by show 8 + (mL2 + 11) + 60 * d2 ≤ R.locals; omega⟩, hts _ w2, hts _ w3⟩
    ⟨z_blind, va_recv C'.2.1 hP hcl he, hPc⟩ rfl (by rw [List.length_map]; exact hn) hL.1 (by show List.map (cv ad) (As.reverse ++ vr k j :: st) = _; rw [List.map_append, List.map_reverse]; rfl) (lv_room (by rw [z_cat]; exact hcat)) hd ⟨hR.2.2.1, hR.2.2.2⟩
  exact z_cont hrun hS hA hA fun r mem2 H1 locs1 hq2 hw2 hm3 hP1 hS1 => h r mem2 hq2 p l e R s m args below meth c D cA ad A Qs cells slots C' H1 locs1 la hP1 hS1 hL hl (z_wfr hw2 hwS) hm3
theorem a_callN {y : MethodName} {bytes : ByteArray} {mL2 : Nat} {ret : Option FieldType} {n k j N ix : Nat} {C host : String} {T : u_T} (As : List AV) {st0 : List AV} {Q2 : Option AV → AMem → Prop} (d2 : Nat)
    (hcl : vwCl[k]? = some (C, T, N)) (hO : kO k = some N) (hk : k < 13) (hy : okName y n) (w1 : ∀ {ad : ZAd} {A : Nat → Prop} {U : State} {H : Heap}, Rom ad sx A U H → va_Nw (.methodLinkNest own ix y host) U) (w2 : Cond.instanceMethod y ∈ TB) (w3 : Cond.selects C y y ∈ TB) (w4 : Cond.initialized y.cls ∈ TB) (w5 : Cond.code y bytes mL2 ret ∈ TB) (hm2 : mL2 ≤ 41)
    (hd : decode cc pc = .ok (.invokevirtual ix, 3)) (hd2 : d2 + 1 ≤ d) (hn : As.length = n) (hst : st0 = As.reverse ++ vr k j :: st) (hcat : catS st ≤ 8)
    (hM : MtX y bytes mL2 ret d2 (vr k j :: As) mem Q2) (h : ∀ r mem2, Q2 r mem2 → Y cc mL own d sx (pc + 3) ls (r.toList ++ st) mem2 Q) : Y cc mL own d sx pc ls st0 mem Q := by
  subst hst
  intro p l e R s m args below meth c D cA ad A Qs cells slots C' H locs la hP hS hL hl hs hm
  obtain ⟨hwA, hwS⟩ := z_wfsA hs
  obtain ⟨hA, hPc⟩ := z_callee C' hP hS (av := vr k j :: As)
  have hq : (k, j) ∈ LV := LV_mem (by omega) (hwA _ List.mem_cons_self)
  obtain ⟨q0, h0, h1⟩ := ws_at (cA := cA) (ad := ad) hq
  have he := h1 mem
  rw [z_ceO hO] at he
  have hts := C'.1.2.2.2.2
  have hR := C'.2.2.2.2.1
  have hrun := va_runVN (g := F0 m pc la ((As.reverse ++ vr k j :: st).map (cv ad))) (rest := st.map (cv ad)) (As := As.map (cv ad)) (b := ad k j) (C := C) (host := host) (n := n) C'.1 (hM hwA hm l D cA ad H.size)
    (cells := cells) (slots := slots) (below := below) (meth := meth) (e := e) (locs := locs)
    ⟨va_cnB (R := R) n hts (z_goodC w5) rfl rfl rfl (w1 C'.2.2.2.2.2.1) (hts _ w4) hy ⟨by show d2 + 1 ≤ R.frames; omega, by show 8 + (mL2 + 11) + 60 * d2 ≤ R.locals; omega⟩, hts _ w2, hts _ w3⟩
    ⟨z_blind, va_recv C'.2.1 hP hcl he, hPc⟩ rfl (by rw [List.length_map]; exact hn) hL.1 (by show List.map (cv ad) (As.reverse ++ vr k j :: st) = _; rw [List.map_append, List.map_reverse]; rfl) (lv_room (by rw [z_cat]; exact hcat)) hd ⟨hR.2.2.1, hR.2.2.2⟩
  exact z_cont hrun hS hA hA fun r mem2 H1 locs1 hq2 hw2 hm3 hP1 hS1 => h r mem2 hq2 p l e R s m args below meth c D cA ad A Qs cells slots C' H1 locs1 la hP1 hS1 hL hl (z_wfr hw2 hwS) hm3
theorem a_callS {y : MethodName} {bytes : ByteArray} {mL2 : Nat} {ret : Option FieldType} {n ix : Nat} (As : List AV) {st0 : List AV} {Q2 : Option AV → AMem → Prop} (d2 : Nat)
    (hy : okName y n) (w1 : Cond.methodLink own ix y ∈ TB) (w2 : Cond.static y ∈ TB) (w4 : Cond.initialized y.cls ∈ TB) (w5 : Cond.code y bytes mL2 ret ∈ TB) (hm2 : mL2 ≤ 41)
    (hd : decode cc pc = .ok (.invokestatic ix, 3)) (hd2 : d2 + 1 ≤ d) (hn : As.length = n) (hst : st0 = As.reverse ++ st) (hcat : catS st ≤ 8)
    (hM : MtX y bytes mL2 ret d2 As mem Q2) (h : ∀ r mem2, Q2 r mem2 → Y cc mL own d sx (pc + 3) ls (r.toList ++ st) mem2 Q) : Y cc mL own d sx pc ls st0 mem Q := by
  subst hst
  intro p l e R s m args below meth c D cA ad A Qs cells slots C' H locs la hP hS hL hl hs hm
  obtain ⟨hwA, hwS⟩ := z_wfsB hs
  obtain ⟨hA, hPc⟩ := z_callee C' hP hS (av := As)
  have hts := C'.1.2.2.2.2
  have hR := C'.2.2.2.2.1
  have hrun := va_runS (g := F0 m pc la ((As.reverse ++ st).map (cv ad))) (rest := st.map (cv ad)) (As := As.map (cv ad)) (n := n) C'.1 (hM hwA hm l D cA ad H.size)
    (cells := cells) (slots := slots) (below := below) (meth := meth) (e := e) (locs := locs)
    ⟨callB_of (R := R) n hts (z_goodC w5) rfl rfl rfl (hts _ w4) (hts _ w1) hy ⟨by show d2 + 1 ≤ R.frames; omega, by show 8 + (mL2 + 11) + 60 * d2 ≤ R.locals; omega⟩, hts _ w2⟩
    ⟨z_blind, hPc⟩ rfl (by rw [List.length_map]; exact hn) hL.1 (by show List.map (cv ad) (As.reverse ++ st) = _; rw [List.map_append, List.map_reverse]) (lv_room (by rw [z_cat]; exact hcat)) hd ⟨hR.2.2.1, hR.2.2.2⟩
  exact z_cont hrun hS hA hA fun r mem2 H1 locs1 hq2 hw2 hm3 hP1 hS1 => h r mem2 hq2 p l e R s m args below meth c D cA ad A Qs cells slots C' H1 locs1 la hP1 hS1 hL hl (z_wfr hw2 hwS) hm3
/-- more may be asked of a call's end than is used; and a call may go deeper than it must -/
theorem MtX_mono {y : MethodName} {cc : ByteArray} {mL : Nat} {ret : Option FieldType} {d : Nat} {av : List AV} {mem : AMem} {Q Q2 : Option AV → AMem → Prop} (h : MtX y cc mL ret d av mem Q) (hQ : ∀ r m, Q r m → Q2 r m) : MtX y cc mL ret d av mem Q2 := by
  intro ha hm l D cA ad sz
  have h1 := h ha hm l D cA ad sz
  intro p e h2 h3 h4 s m args below h5 h6 h7 h8
  obtain ⟨t, o, a1, a2, a3, ⟨⟨⟨r, mem2, b1, b2, b3⟩, b4⟩, b5⟩⟩ := h1 p e h2 h3 h4 s m args below h5 h6 h7 h8
  exact ⟨t, o, a1, a2, a3, ⟨⟨⟨r, mem2, b1, hQ _ _ b2, b3⟩, b4⟩, b5⟩⟩
end
