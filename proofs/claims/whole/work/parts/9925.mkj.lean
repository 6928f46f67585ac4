/-! making: a constructor that takes a reference -/
def MtJ (y : MethodName) (cc : ByteArray) (mL d mc ms ci : Nat) (fs : List Value) (cA : ZCA) (Qf : Nat → Nat → va_W → List FieldType → Prop) : Prop :=
  ∀ (a0 h0 sz : Nat) (l : Launch) (D : va_G), Met l y (Cond.code y cc mL none :: TB) ({ frames := d, cells := mc, slots := ms, locals := 60 * d } : Room) (va_Pc [.ref h0, .ref a0] (PIn D cA ci fs h0 sz))
    (va_Qv (fun u : va_W × List FieldType => Qf a0 h0 u.1 u.2) (fun u t => va_P D vwCl u.1 t.heap ∧ va_K D vwCl (tyC cA u.2) t ∧ va_D (va_A [(h0, .inr (ci, fs))] sz) u.1) (va_A [(h0, .inr (ci, fs))] sz)) mc ms (va_A [(h0, .inr (ci, fs))] sz)
theorem PJ_blind {D : va_G} {cA : ZCA} {ci h0 sz : Nat} {fs av : List Value} : FrameBlind (va_Pc av (PIn D cA ci fs h0 sz)) := by
  intro a U g mk q
  obtain ⟨q0, q1, q2, q3, q4, q5, q6⟩ := q
  exact ⟨q0, q1, q2, va_K.moved (u := U) (U := U.calling g mk a) (Vm.Alike.refl U.vm) q3, caOK_al (s := U) (U := U.calling g mk a) (Vm.Alike.refl U.vm) q4, nwOK_same (s := U) (U := U.calling g mk a) rfl q5, q6⟩
set_option maxRecDepth 100000 in
set_option maxHeartbeats 1000000 in
theorem Zb_metJ {y : MethodName} {cc : ByteArray} {mL d mc ms ci : Nat} {fs : List Value} {cA : ZCA} {Qf : Nat → Nat → va_W → List FieldType → Prop} (hy : plainName y.cls = true) (hyn : y.name = "<init>") (h1 : 2 ≤ mL)
    (h : ∀ a0 h0, Zb cc mL y.cls d mc ms cA 0 [(0, .ref h0), (1, .ref a0)] [] [(h0, .inr (ci, fs))] [] 0 0 (Qf a0 h0)) : MtJ y cc mL d mc ms ci fs cA Qf := by
  intro a0 h0 sz l D
  refine Met.ofW (cc := cc) (maxL := mL) (ret := none) hy rfl ?_
  intro p e s m args below meth c s₁ B hml hv
  obtain ⟨rfl, hsz, hP, hK, hca, hnw, hD0⟩ := hv
  have hts := atoms_spec (ws := Cond.code y cc mL none :: TB) B.pre
  have hown : s.vm.findClass y.cls = some m.cls := findClass_of_methodNamed B.named
  have hlocks := B.notSynchronized
  have hname : meth.name = "<init>" := by rw [← hyn]; exact (name_of_methodNamed B.named B.method).1
  subst hsz
  have hD := hD0.self (sz := s.heap.size)
  have hl := lv_entry ([.ref h0, .ref a0]) (n := mL) (by show 2 ≤ mL; exact h1)
  rw [lg_entry_eq]
  generalize (lg_sl ([.ref h0, .ref a0]) ++ List.replicate (mL - (lg_sl ([.ref h0, .ref a0])).length) Slot.unset).toArray = la at hl ⊢
  have hl : lv_has la mL [(0, .ref h0), (1, .ref a0)] := hl
  refine h a0 h0 p l e _ s m _ below meth c D (va_A [(h0, .inr (ci, fs))] s.heap.size) _ ⟨⟨B.exec, B.bytes, hml, hown, fun w hw => hts w (List.mem_cons_of_mem _ hw)⟩, hname, hK, hca, hnw, fun q hq => Or.inr hq, ⟨Nat.le_refl _, Nat.le_refl _, Nat.le_refl _, Nat.le_refl _⟩⟩ ?_ s.heap [] la hP hD hK va_S.rf hl
  intro pc la2 ws2 ts2 H locs hd hQ hP2 hD2 hK2 hS2
  have hr := B.returns
  exact W.vret B.exec B.bytes hr (fun t ht hW => ⟨⟨(ws2, ts2), rfl, hQ, by rw [ht]; exact hP2, va_K.moved hW.alike hK2, hD2⟩, hS2.F ht⟩) hS2.2.2 hd
section
variable {cc : ByteArray} {mL : Nat} {own : String} {d mc ms : Nat} {cA : ZCA} {pc : Nat} {lo : List (Nat × Value)} {st : List Value} {ws : va_W} {ts : List FieldType} {nc ns : Nat} {Qf : va_W → List FieldType → Prop}
set_option maxHeartbeats 1000000 in
/-- new C, dup, a field of an object that a local holds, C's constructor over it -/
theorem zb_mkJ {y : MethodName} {bytes : ByteArray} {mL2 d2 mc2 ms2 ci N ixn ixi : Nat} {C : String} {T : u_T} {tyv : Nat → FieldType} {fs0 : List Value} {Qf2 : Nat → Nat → va_W → List FieldType → Prop} (hM : MtJ y bytes mL2 d2 mc2 ms2 ci fs0 cA Qf2)
    (hcl : vwCl[ci]? = some (C, T, N)) (hin : ∀ w ∈ u_ws C T N, w ∈ TB) (hty : ∀ k, k < N → parseFieldDescriptor (T k).2.2.1 = some (tyv k)) (hfs : ∀ j, j < N → defaultValue (tyv j) = vp_V fs0 j)
    (w1 : Cond.classLink own ixn C ∈ TB) (w2 : Cond.instantiable C N ∈ TB) (w3 : Cond.initialized C ∈ TB) (hy : okName y 1) (hyn : y.name = "<init>") (w4 : Cond.instanceMethod y ∈ TB) (w5 : Cond.initialized y.cls ∈ TB) (w6 : Cond.code y bytes mL2 none ∈ TB) (w7 : Cond.methodLink own ixi y ∈ TB)
    (hm2 : mL2 ≤ 41) (hd2 : d2 + 1 ≤ d) (hb1 : nc + 1 + mc2 ≤ mc) (hb2 : ns + N + ms2 ≤ ms) (hcat : ∀ q : Nat, (((.ref q :: st) : List Value).map fun v => v.category).sum ≤ 8)
    (hi1 : decode cc pc = .ok (.new ixn, 3)) (hi2 : decode cc (pc + 3) = .ok (.dup, 1))
    (k0 : Nat) {n : Fin 4} {i b0 : Nat} (hi3 : decode cc (pc + 4) = .ok (.aload_n n, 1)) (hn : (n : Nat) = i) (hk0 : lo[k0]? = some (i, .ref b0))
    {ci3 N3 ix3 a : Nat} {C3 : String} {T3 : u_T} {fs3 : List Value} (hcl3 : vwCl[ci3]? = some (C3, T3, N3)) (hin3 : ∀ w ∈ u_ws C3 T3 N3, w ∈ TB) (q0 : Nat) (he : ws[q0]? = some (b0, .inr (ci3, fs3))) (k3 : Nat) (hk3 : k3 < N3) (hw3 : Cond.fieldLink own ix3 (T3 k3).1 (T3 k3).2.1 (T3 k3).2.2.1 ∈ TB) (hv3 : fs3[k3]? = some (.ref a)) (hi4 : decode cc (pc + 5) = .ok (.getfield ix3, 3))
    (hi5 : decode cc (pc + 8) = .ok (.invokespecial ixi, 3))
    (h : ∀ (q : Nat) (w : va_W) (t : List FieldType), Qf2 a q w t → Zb cc mL own d mc ms cA (pc + 11) lo (.ref q :: st) (ws ++ w) (ts ++ t) (nc + 1 + mc2) (ns + N + ms2) Qf) : Zb cc mL own d mc ms cA pc lo st ws ts nc ns Qf := by
  intro p l e R s m args below meth c D A Qs K E H locs la hP hD hT hS hl
  obtain ⟨⟨k1, k2, k3', k4, k5⟩, kn, kK, kC, kN, kA, kR⟩ := id K
  refine va_new k1 k2 k5 hin tyv hty k4 (k5 _ w1) (k5 _ w2) (k5 _ w3) hT hP hD hS kA hcl hfs (by omega) (by omega) hi1 fun q H1 hP1 hD1 hS1 => ?_
  refine lv_dup k1 k2 hi2 rfl ?_
  refine lv_aload_n k1 k2 hi3 hn (lv_at hl k0 hk0) ?_
  have he1 : (ws ++ [(q, .inr (ci, fs0))])[q0]? = some (b0, .inr (ci3, fs3)) := by
    rw [List.getElem?_append_left (List.getElem?_eq_some_iff.mp he).1]
    exact he
  refine va_get k1 k2 k5 hin3 k4 hT hP1 q0 he1 hcl3 k3 hk3 (k5 _ hw3) (fun _ z => z) hv3 hi4 ?_
  have hPc := hP1.sub (ws' := [(q, .inr (ci, fs0))]) [ws.length] (by simp)
  have hDc := hD1.sub (ws' := [(q, .inr (ci, fs0))]) [ws.length] (by simp [va_nd]) (by simp)
  have hFc := va_free (wc := [(q, .inr (ci, fs0))]) hD1 hS1 kA [ws.length] cut_c
  have hpre : PreS s H1 (va_Pc [.ref q, .ref a] (PIn D cA ci fs0 q H1.size)) (.ref q :: [.ref a]) := ⟨PJ_blind, fun U hU hW => ⟨rfl, by rw [hU], by rw [hU]; exact hPc, va_K.moved hW.alike kK, caOK_al hW.alike kC, nwOK_warm hW kN, hDc.weaken (fun _ _ _ _ => trivial)⟩⟩
  have hrun : va_Run p l e R s m args below meth c H1 locs (nc + 1) (ns + N) mc2 ms2 (F0 m (pc + 8) la (.ref a :: .ref q :: .ref q :: st)) (.ref q :: st) (va_Qv (fun u : va_W × List FieldType => Qf2 a q u.1 u.2) (fun u t => va_P D vwCl u.1 t.heap ∧ va_K D vwCl (tyC cA u.2) t ∧ va_D (va_A [(q, .inr (ci, fs0))] H1.size) u.1) (va_A [(q, .inr (ci, fs0))] H1.size) (Value.ref q :: [.ref a]).toArray) (va_A [(q, .inr (ci, fs0))] H1.size) :=
    va_runI (As := [.ref a]) (rest := .ref q :: st) ⟨k1, k2, k3', k4, k5⟩ (hM a q H1.size l D) ⟨callB_of (R := R) 1 k5 (z_goodC w6) rfl rfl rfl (k5 _ w5) (k5 _ w7) hy ⟨by show d2 + 1 ≤ R.frames; omega, by show 8 + (mL2 + 11) + 60 * d2 ≤ R.locals; omega⟩, hyn, k5 _ w4⟩ hpre rfl rfl hl.1 rfl (lv_room (hcat q)) hi5 ⟨by omega, by omega⟩
  refine va_callv hrun hS1 (fun q2 _ h2 => hFc q2 h2) hFc fun u t H2 locs2 ht hvm hw hB hz1 hk1 hS2 => ?_
  obtain ⟨hP2, hK2, hD2⟩ := hB
  rw [ht] at hP2
  have hK2 := va_K.moved hvm.symm hK2
  obtain ⟨hP3, hD3⟩ := va_join (wr := ws) (w1 := u.1) hP1 hD1 [ws.length] (List.range' 0 ws.length) cut_c cut_r (nd_range _) (fun i hi z => by
    have := List.mem_range'_1.mp hi
    rw [List.mem_singleton] at z
    omega) hk1 hFc hP2 hD2
  refine h q u.1 u.2 hw p l e R s m args below meth c D A Qs K E H2 locs2 la hP3 hD3 ?_ hS2 hl
  unfold tyC at hT hK2 ⊢
  rw [List.map_append]
  exact hT.app hK2
end
