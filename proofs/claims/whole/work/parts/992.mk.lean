/-! making: a constructor's walk, over a world that grows -/
def NW : List (String × Nat × MethodName × String) := [(RX2, 26, yX3_init, "OnOneBreath"), (RX4, 15, yX3_init, "OnOneBreath"), (RX8, 24, yX7_init, "OnOneBreath"), (RX11, 9, yX2_init, "OnOneBreath"), (RX11, 18, yX7_init, "OnOneBreath"), (RX11, 32, yX6_init, "OnOneBreath"), (RX11, 39, yX9_init, "OnOneBreath"), (RX11, 46, yX5_init, "OnOneBreath"), (RX11, 53, yX1_init, "OnOneBreath"), (RX11, 60, yX0_init, "OnOneBreath"), (RX11, 73, yX4_init, "OnOneBreath"), (RX11, 78, yX10_init, "OnOneBreath")]
def AOK (C : String) : Prop := C = "OnOneBreath$Scene" ∨ C = "OnOneBreath$Shelf"
def nwOK (U : State) : Prop := (∀ q ∈ NW, va_Nw (.methodLinkNest q.1 q.2.1 q.2.2.1 q.2.2.2) U) ∧ ∀ C, AOK C → va_AO C U
def caOK (cA : ZCA) (U : State) : Prop := ∀ (ty : FieldType) (c : ClassId), va_RA U c ty → c = cA ty
def tyC (cA : ZCA) (ts : List FieldType) : List (ClassId × FieldType) := ts.map fun t => (cA t, t)
theorem nwOK_warm {s U : State} (hW : s.WarmedH U.vm) (h : nwOK s) : nwOK U := ⟨fun q hq => va_Nw.warmM hW (h.1 q hq), fun C hC => va_AO.moved hW.alike (h.2 C hC)⟩
theorem nwOK_same {s U : State} (hv : s.vm = U.vm) (h : nwOK s) : nwOK U := ⟨fun q hq => va_Nw.same rfl hv (h.1 q hq), fun C hC => va_AO.moved (by rw [hv]; exact Vm.Alike.refl _) (h.2 C hC)⟩
theorem caOK_al {cA : ZCA} {s U : State} (hv : s.vm.Alike U.vm) (h : caOK cA s) : caOK cA U := fun ty c hc => h ty c (va_RA.moved hv.symm hc)
def Kx (cc : ByteArray) (mL : Nat) (own : String) (d mc ms : Nat) (cA : ZCA) (p : Program) (l : Launch) (e : Env) (R : Room) (s : State) (m : MethodId) (args : Array Value) (below : List Frame) (meth : Method) (c : Code) (D : va_G) (A : Nat → Prop) : Prop :=
  CallFix p m c cc mL s args TB own ∧ meth.name = "<init>" ∧ va_K D vwCl [] s ∧ caOK cA s ∧ nwOK s ∧ (∀ q, s.heap.size ≤ q → A q) ∧ (d ≤ R.frames ∧ 60 * d ≤ R.locals ∧ mc ≤ R.cells ∧ ms ≤ R.slots)
def Zb (cc : ByteArray) (mL : Nat) (own : String) (d mc ms : Nat) (cA : ZCA) (pc : Nat) (lo : List (Nat × Value)) (st : List Value) (ws : va_W) (ts : List FieldType) (nc ns : Nat) (Qf : va_W → List FieldType → Prop) : Prop :=
  ∀ (p : Program) (l : Launch) (e : Env) (R : Room) (s : State) (m : MethodId) (args : Array Value) (below : List Frame) (meth : Method) (c : Code) (D : va_G) (A : Nat → Prop) (Qs : State → Prop), Kx cc mL own d mc ms cA p l e R s m args below meth c D A →
    (∀ (pc : Nat) (la : Array Slot) (ws : va_W) (ts : List FieldType) (H : Heap) (locs : List Loc), decode cc pc = .ok (.return_, 1) → Qf ws ts → va_P D vwCl ws H → va_D A ws → va_K D vwCl (tyC cA ts) s → va_S A s.heap H locs → W p l e R s m args below meth c H locs mc ms Qs (F0 m pc la [])) →
    ∀ (H : Heap) (locs : List Loc) (la : Array Slot), va_P D vwCl ws H → va_D A ws → va_K D vwCl (tyC cA ts) s → va_S A s.heap H locs → lv_has la mL lo → W p l e R s m args below meth c H locs nc ns Qs (F0 m pc la st)
def PIn (D : va_G) (cA : ZCA) (ci : Nat) (fs : List Value) (h0 sz : Nat) (U : State) : Prop := U.heap.size = sz ∧ va_P D vwCl [(h0, .inr (ci, fs))] U.heap ∧ va_K D vwCl [] U ∧ caOK cA U ∧ nwOK U ∧ va_D (fun _ => True) [(h0, .inr (ci, fs))]
def MtI (y : MethodName) (cc : ByteArray) (mL d mc ms ci : Nat) (fs : List Value) (cA : ZCA) (Qf : Nat → va_W → List FieldType → Prop) : Prop :=
  ∀ (h0 sz : Nat) (l : Launch) (D : va_G), Met l y (Cond.code y cc mL none :: TB) ({ frames := d, cells := mc, slots := ms, locals := 60 * d } : Room) (va_Pc [.ref h0] (PIn D cA ci fs h0 sz))
    (va_Qv (fun u : va_W × List FieldType => Qf h0 u.1 u.2) (fun u t => va_P D vwCl u.1 t.heap ∧ va_K D vwCl (tyC cA u.2) t ∧ va_D (va_A [(h0, .inr (ci, fs))] sz) u.1) (va_A [(h0, .inr (ci, fs))] sz)) mc ms (va_A [(h0, .inr (ci, fs))] sz)
theorem PI_blind {D : va_G} {cA : ZCA} {ci h0 sz : Nat} {fs : List Value} : FrameBlind (va_Pc [.ref h0] (PIn D cA ci fs h0 sz)) := by
  intro a U g mk q
  obtain ⟨q0, q1, q2, q3, q4, q5, q6⟩ := q
  exact ⟨q0, q1, q2, va_K.moved (u := U) (U := U.calling g mk a) (Vm.Alike.refl U.vm) q3, caOK_al (s := U) (U := U.calling g mk a) (Vm.Alike.refl U.vm) q4, nwOK_same (s := U) (U := U.calling g mk a) rfl q5, q6⟩
set_option maxRecDepth 100000 in
set_option maxHeartbeats 1000000 in
theorem Zb_met {y : MethodName} {cc : ByteArray} {mL d mc ms ci : Nat} {fs : List Value} {cA : ZCA} {Qf : Nat → va_W → List FieldType → Prop} (hy : plainName y.cls = true) (hyn : y.name = "<init>") (h1 : 1 ≤ mL)
    (h : ∀ h0, Zb cc mL y.cls d mc ms cA 0 [(0, .ref h0)] [] [(h0, .inr (ci, fs))] [] 0 0 (Qf h0)) : MtI y cc mL d mc ms ci fs cA Qf := by
  intro h0 sz l D
  refine Met.ofW (cc := cc) (maxL := mL) (ret := none) hy rfl ?_
  intro p e s m args below meth c s₁ B hml hv
  obtain ⟨rfl, hsz, hP, hK, hca, hnw, hD0⟩ := hv
  have hts := atoms_spec (ws := Cond.code y cc mL none :: TB) B.pre
  have hown : s.vm.findClass y.cls = some m.cls := findClass_of_methodNamed B.named
  have hlocks := B.notSynchronized
  have hname : meth.name = "<init>" := by rw [← hyn]; exact (name_of_methodNamed B.named B.method).1
  subst hsz
  have hD := hD0.self (sz := s.heap.size)
  have hl := lv_entry ([.ref h0]) (n := mL) (by show 1 ≤ mL; exact h1)
  rw [lg_entry_eq]
  generalize (lg_sl ([.ref h0]) ++ List.replicate (mL - (lg_sl ([.ref h0])).length) Slot.unset).toArray = la at hl ⊢
  have hl : lv_has la mL [(0, .ref h0)] := hl
  refine h h0 p l e _ s m _ below meth c D (va_A [(h0, .inr (ci, fs))] s.heap.size) _ ⟨⟨B.exec, B.bytes, hml, hown, fun w hw => hts w (List.mem_cons_of_mem _ hw)⟩, hname, hK, hca, hnw, fun q hq => Or.inr hq, ⟨Nat.le_refl _, Nat.le_refl _, Nat.le_refl _, Nat.le_refl _⟩⟩ ?_ s.heap [] la hP hD hK va_S.rf hl
  intro pc la2 ws2 ts2 H locs hd hQ hP2 hD2 hK2 hS2
  have hr := B.returns
  exact W.vret B.exec B.bytes hr (fun t ht hW => ⟨⟨(ws2, ts2), rfl, hQ, by rw [ht]; exact hP2, va_K.moved hW.alike hK2, hD2⟩, hS2.F ht⟩) hS2.2.2 hd
section
variable {cc : ByteArray} {mL : Nat} {own : String} {d mc ms : Nat} {cA : ZCA} {pc : Nat} {lo : List (Nat × Value)} {st : List Value} {ws : va_W} {ts : List FieldType} {nc ns : Nat} {Qf : va_W → List FieldType → Prop}
theorem Zb_ws {st : List Value} {ws2 : va_W} {ts2 : List FieldType} (h1 : ws = ws2) (h2 : ts = ts2) (h : Zb cc mL own d mc ms cA pc lo st ws2 ts2 nc ns Qf) : Zb cc mL own d mc ms cA pc lo st ws ts nc ns Qf := by rw [h1, h2]; exact h
theorem zb_aload {n : Fin 4} (k : Nat) {i a : Nat} (hd : decode cc pc = .ok (.aload_n n, 1)) (hi : (n : Nat) = i) (hk : lo[k]? = some (i, .ref a)) (h : Zb cc mL own d mc ms cA (pc + 1) lo (.ref a :: st) ws ts nc ns Qf) : Zb cc mL own d mc ms cA pc lo st ws ts nc ns Qf := by
  intro p l e R s m args below meth c D A Qs K E H locs la hP hD hT hS hl
  exact lv_aload_n K.1.1 K.1.2.1 hd hi (lv_at hl k hk) (h p l e R s m args below meth c D A Qs K E H locs la hP hD hT hS hl)
theorem zb_iload {n : Fin 4} (k : Nat) {i : Nat} {x : Int32} (hd : decode cc pc = .ok (.iload_n n, 1)) (hi : (n : Nat) = i) (hk : lo[k]? = some (i, .int x)) (h : Zb cc mL own d mc ms cA (pc + 1) lo (.int x :: st) ws ts nc ns Qf) : Zb cc mL own d mc ms cA pc lo st ws ts nc ns Qf := by
  intro p l e R s m args below meth c D A Qs K E H locs la hP hD hT hS hl
  exact lv_iload_n K.1.1 K.1.2.1 hd hi (lv_at hl k hk) (h p l e R s m args below meth c D A Qs K E H locs la hP hD hT hS hl)
theorem zb_iconst {k : Int} {v : Int32} (hd : decode cc pc = .ok (.iconst k, 1)) (hv : Int32.ofInt k = v) (h : Zb cc mL own d mc ms cA (pc + 1) lo (.int v :: st) ws ts nc ns Qf) : Zb cc mL own d mc ms cA pc lo st ws ts nc ns Qf := by
  intro p l e R s m args below meth c D A Qs K E H locs la hP hD hT hS hl
  exact lv_iconst K.1.1 K.1.2.1 hd hv (h p l e R s m args below meth c D A Qs K E H locs la hP hD hT hS hl)
theorem zb_bipush {k : Int} {v : Int32} (hd : decode cc pc = .ok (.bipush k, 2)) (hv : (Int8.ofInt k).toInt32 = v) (h : Zb cc mL own d mc ms cA (pc + 2) lo (.int v :: st) ws ts nc ns Qf) : Zb cc mL own d mc ms cA pc lo st ws ts nc ns Qf := by
  intro p l e R s m args below meth c D A Qs K E H locs la hP hD hT hS hl
  exact lv_bipush K.1.1 K.1.2.1 hd hv (h p l e R s m args below meth c D A Qs K E H locs la hP hD hT hS hl)
theorem zb_sipush {k : Int} {v : Int32} (hd : decode cc pc = .ok (.sipush k, 3)) (hv : (Int16.ofInt k).toInt32 = v) (h : Zb cc mL own d mc ms cA (pc + 3) lo (.int v :: st) ws ts nc ns Qf) : Zb cc mL own d mc ms cA pc lo st ws ts nc ns Qf := by
  intro p l e R s m args below meth c D A Qs K E H locs la hP hD hT hS hl
  exact lv_sipush K.1.1 K.1.2.1 hd hv (h p l e R s m args below meth c D A Qs K E H locs la hP hD hT hS hl)
theorem zb_dup {v : Value} (hd : decode cc pc = .ok (.dup, 1)) (hv : v.category = 1) (h : Zb cc mL own d mc ms cA (pc + 1) lo (v :: v :: st) ws ts nc ns Qf) : Zb cc mL own d mc ms cA pc lo (v :: st) ws ts nc ns Qf := by
  intro p l e R s m args below meth c D A Qs K E H locs la hP hD hT hS hl
  exact lv_dup K.1.1 K.1.2.1 hd hv (h p l e R s m args below meth c D A Qs K E H locs la hP hD hT hS hl)
theorem zb_istore {n : Fin 4} {i : Nat} {x : Int32} {lo2 : List (Nat × Value)} (hd : decode cc pc = .ok (.istore_n n, 1)) (hi : (n : Nat) = i) (hn : i < mL) (hl2 : (i, Value.int x) :: lo.filter (fun q => !(q.1 == i) && !(q.1 + 1 == i && q.2.category == 2)) = lo2) (h : Zb cc mL own d mc ms cA (pc + 1) lo2 st ws ts nc ns Qf) : Zb cc mL own d mc ms cA pc lo (.int x :: st) ws ts nc ns Qf := by
  intro p l e R s m args below meth c D A Qs K E H locs la hP hD hT hS hl
  exact lv_istore_n K.1.1 K.1.2.1 hd hi hl hn hl2 fun la2 hl3 => h p l e R s m args below meth c D A Qs K E H locs la2 hP hD hT hS hl3
theorem zb_iinc {i k : Nat} {n : Int} {x v : Int32} {lo2 : List (Nat × Value)} (hd : decode cc pc = .ok (.iinc i n, 3)) (hk : lo[k]? = some (i, .int x)) (hv : x + Int32.ofInt n = v) (hn : i < mL) (hl2 : (i, Value.int v) :: lo.filter (fun q => !(q.1 == i) && !(q.1 + 1 == i && q.2.category == 2)) = lo2) (h : Zb cc mL own d mc ms cA (pc + 3) lo2 st ws ts nc ns Qf) : Zb cc mL own d mc ms cA pc lo st ws ts nc ns Qf := by
  intro p l e R s m args below meth c D A Qs K E H locs la hP hD hT hS hl
  exact lv_iinc K.1.1 K.1.2.1 hd hl hk hv hn hl2 fun la2 hl3 => h p l e R s m args below meth c D A Qs K E H locs la2 hP hD hT hS hl3
theorem zb_goto {off : Int} {tgt : Nat} (hd : decode cc pc = .ok (.goto off, 3)) (ht : (pc : Int) + off = (tgt : Int)) (h : Zb cc mL own d mc ms cA tgt lo st ws ts nc ns Qf) : Zb cc mL own d mc ms cA pc lo st ws ts nc ns Qf := by
  intro p l e R s m args below meth c D A Qs K E H locs la hP hD hT hS hl
  exact lv_goto K.1.1 K.1.2.1 hd ht (h p l e R s m args below meth c D A Qs K E H locs la hP hD hT hS hl)
theorem zb_geT {x y : Int32} {off : Int} {tgt : Nat} (hd : decode cc pc = .ok (.if_icmp .ge off, 3)) (ht : (pc : Int) + off = (tgt : Int)) (hxy : y ≤ x) (h : Zb cc mL own d mc ms cA tgt lo st ws ts nc ns Qf) : Zb cc mL own d mc ms cA pc lo (.int y :: .int x :: st) ws ts nc ns Qf := by
  intro p l e R s m args below meth c D A Qs K E H locs la hP hD hT hS hl
  exact lv_icmp_ge K.1.1 K.1.2.1 hd ht (fun _ => h p l e R s m args below meth c D A Qs K E H locs la hP hD hT hS hl) fun z => absurd hxy z
theorem zb_geF {x y : Int32} {off : Int} {tgt : Nat} (hd : decode cc pc = .ok (.if_icmp .ge off, 3)) (ht : (pc : Int) + off = (tgt : Int)) (hxy : ¬ y ≤ x) (h : Zb cc mL own d mc ms cA (pc + 3) lo st ws ts nc ns Qf) : Zb cc mL own d mc ms cA pc lo (.int y :: .int x :: st) ws ts nc ns Qf := by
  intro p l e R s m args below meth c D A Qs K E H locs la hP hD hT hS hl
  exact lv_icmp_ge K.1.1 K.1.2.1 hd ht (fun z => absurd z hxy) fun _ => h p l e R s m args below meth c D A Qs K E H locs la hP hD hT hS hl
theorem zb_ret (hd : decode cc pc = .ok (.return_, 1)) (h1 : nc ≤ mc) (h2 : ns ≤ ms) (hQ : Qf ws ts) : Zb cc mL own d mc ms cA pc lo [] ws ts nc ns Qf := by
  intro p l e R s m args below meth c D A Qs K E H locs la hP hD hT hS hl
  exact W.widen h1 h2 (E pc la ws ts H locs hd hQ hP hD hT hS)
theorem zb_obj {ix a : Nat} (w1 : Cond.methodLink own ix Lib.objectInit ∈ TB) (w2 : Cond.instanceMethod Lib.objectInit ∈ TB) (w3 : Cond.code Lib.objectInit ⟨#[0xb1]⟩ 1 none ∈ TB) (hd1 : 1 ≤ d) (hd : decode cc pc = .ok (.invokespecial ix, 3)) (h : Zb cc mL own d mc ms cA (pc + 3) lo [] ws ts nc ns Qf) : Zb cc mL own d mc ms cA pc lo [.ref a] ws ts nc ns Qf := by
  intro p l e R s m args below meth c D A Qs K E H locs la hP hD hT hS hl
  have hR := K.2.2.2.2.2.2
  exact W.objInit K.1.1 K.1.2.1 K.1.2.2.2.1 (K.1.2.2.2.2 _ w1) (K.1.2.2.2.2 _ w2) (K.1.2.2.2.2 _ w3) rfl (by rw [K.1.2.2.1]; exact hl.1) rfl hd (by omega) (by show 12 ≤ R.locals; omega) (h p l e R s m args below meth c D A Qs K E H locs la hP hD hT hS hl)
theorem zb_newa {atype : ArrayType} {ty : FieldType} {n : Int32} {N' : Nat} {a0 : vp_A} (w1 : Cond.arrayClass (newarray.typeOf atype) ∈ TB) (hty : newarray.typeOf atype = ty) (ha : ∀ cA : ClassId, vp_cell cA a0 = arrV cA N' (fun _ => defaultValue ty)) (hn : ¬ n < 0) (hN : n.toNatClampNeg = N') (hb : N' * componentBytes ty ≤ 536870912) (h1 : nc + 1 ≤ mc) (h2 : ns + N' ≤ ms) (hd : decode cc pc = .ok (.newarray atype, 2))
    (h : ∀ q, Zb cc mL own d mc ms cA (pc + 2) lo (.ref q :: st) (ws ++ [(q, .inl (cA ty, a0))]) (ts ++ [ty]) (nc + 1) (ns + N') Qf) : Zb cc mL own d mc ms cA pc lo (.int n :: st) ws ts nc ns Qf := by
  intro p l e R s m args below meth c D A Qs K E H locs la hP hD hT hS hl
  have hR := K.2.2.2.2.2.2
  refine va_newa K.1.1 K.1.2.1 (K.1.2.2.2.2 _ w1) hty hT hP hD hS K.2.2.2.2.2.1 ha hn hN hb (by omega) (by omega) hd fun q c1 H1 hT1 hP1 hD1 hS1 => ?_
  have hRA := (hT1.2 (tyC cA ts).length (c1, ty) (by simp)).2
  obtain rfl : c1 = cA ty := K.2.2.2.1 ty c1 hRA
  refine h q p l e R s m args below meth c D A Qs K E H1 locs la hP1 hD1 ?_ hS1 hl
  unfold tyC at hT1 ⊢
  rw [List.map_append]
  exact hT1
theorem zb_newq {C : String} {ix : Nat} {n : Int32} {N' : Nat} (w1 : Cond.classLink own ix C ∈ TB) (w2 : AOK C) (hn : ¬ n < 0) (hN : n.toNatClampNeg = N') (hb : N' * 4 ≤ 536870912) (h1 : nc + 1 ≤ mc) (h2 : ns + N' ≤ ms) (hd : decode cc pc = .ok (.anewarray ix, 3))
    (h : ∀ q, Zb cc mL own d mc ms cA (pc + 3) lo (.ref q :: st) (ws ++ [(q, .inl (cA (.object C), N', .inr (.inr (.inr (.inr (fun _ => none))))))]) (ts ++ [.object C]) (nc + 1) (ns + N') Qf) : Zb cc mL own d mc ms cA pc lo (.int n :: st) ws ts nc ns Qf := by
  intro p l e R s m args below meth c D A Qs K E H locs la hP hD hT hS hl
  have hR := K.2.2.2.2.2.2
  refine va_newq K.1.1 K.1.2.1 K.1.2.2.2.1 (K.1.2.2.2.2 _ w1) (K.2.2.2.2.1.2 C w2) hT hP hD hS K.2.2.2.2.2.1 hn hN hb (by omega) (by omega) hd fun q c1 H1 hT1 hP1 hD1 hS1 => ?_
  have hRA := (hT1.2 (tyC cA ts).length (c1, .object C) (by simp)).2
  obtain rfl : c1 = cA (.object C) := K.2.2.2.1 _ c1 hRA
  refine h q p l e R s m args below meth c D A Qs K E H1 locs la hP1 hD1 ?_ hS1 hl
  unfold tyC at hT1 ⊢
  rw [List.map_append]
  exact hT1
theorem zb_putF {ci N ix a : Nat} {T : u_T} {ty0 : Nat → FieldType} {ty : FieldType} {v : Value} {fs : List Value} (hcl : vwCl[ci]? = some (own, T, N)) (hin : ∀ w ∈ u_ws own T N, w ∈ TB) (hty : ∀ k, k < N → parseFieldDescriptor (T k).2.2.1 = some (ty0 k)) (hnm : ∀ a, a < N → ∀ b, b < N → a ≠ b → (T a).2.1 ≠ (T b).2.1) (q0 : Nat) (he : ws[q0]? = some (a, .inr (ci, fs))) (k : Nat) (hk : k < N) (hw : Cond.fieldLink own ix (T k).1 (T k).2.1 (T k).2.2.1 ∈ TB) (hfin : (T k).2.2.2 = true) (hdecl : (T k).1 = own) (hdt : parseFieldDescriptor (T k).2.2.1 = some ty) (hn : narrow ty v = v) (hfit : fits ty v = true) (hl9 : k < fs.length) (hd : decode cc pc = .ok (.putfield ix, 3))
    (h : Zb cc mL own d mc ms cA (pc + 3) lo st (ws.set q0 (a, .inr (ci, fs.set k v))) ts nc ns Qf) : Zb cc mL own d mc ms cA pc lo (v :: .ref a :: st) ws ts nc ns Qf := by
  intro p l e R s m args below meth c D A Qs K E H locs la hP hD hT hS hl
  exact va_putF K.1.1 K.1.2.1 K.1.2.2.2.2 hin ty0 hty hnm K.1.2.2.2.1 hT hP hD hS q0 he hcl k hk (K.1.2.2.2.2 _ hw) (fun _ z => z) hfin K.2.1 hdecl hdt hn hfit hl9 hd fun H1 locs1 hP1 hD1 hS1 => h p l e R s m args below meth c D A Qs K E H1 locs1 la hP1 hD1 hT hS1 hl
theorem zb_putM {ci N ix a : Nat} {C : String} {T : u_T} {ty0 : Nat → FieldType} {ty : FieldType} {v : Value} {fs : List Value} (hcl : vwCl[ci]? = some (C, T, N)) (hin : ∀ w ∈ u_ws C T N, w ∈ TB) (hty : ∀ k, k < N → parseFieldDescriptor (T k).2.2.1 = some (ty0 k)) (hnm : ∀ a, a < N → ∀ b, b < N → a ≠ b → (T a).2.1 ≠ (T b).2.1) (q0 : Nat) (he : ws[q0]? = some (a, .inr (ci, fs))) (k : Nat) (hk : k < N) (hw : Cond.fieldLink own ix (T k).1 (T k).2.1 (T k).2.2.1 ∈ TB) (hfin : (T k).2.2.2 = false) (hdt : parseFieldDescriptor (T k).2.2.1 = some ty) (hn : narrow ty v = v) (hfit : fits ty v = true) (hl9 : k < fs.length) (hd : decode cc pc = .ok (.putfield ix, 3))
    (h : Zb cc mL own d mc ms cA (pc + 3) lo st (ws.set q0 (a, .inr (ci, fs.set k v))) ts nc ns Qf) : Zb cc mL own d mc ms cA pc lo (v :: .ref a :: st) ws ts nc ns Qf := by
  intro p l e R s m args below meth c D A Qs K E H locs la hP hD hT hS hl
  exact va_put K.1.1 K.1.2.1 K.1.2.2.2.2 hin ty0 hty hnm K.1.2.2.2.1 hT hP hD hS q0 he hcl k hk (K.1.2.2.2.2 _ hw) (fun _ z => z) hfin hdt hn hfit hl9 hd fun H1 locs1 hP1 hD1 hS1 => h p l e R s m args below meth c D A Qs K E H1 locs1 la hP1 hD1 hT hS1 hl
theorem zb_iast {n a : Nat} {f : Nat → Int32} {i x : Int32} (q0 t0 : Nat) (he : ws[q0]? = some (a, .inl (cA .int, n, .inl f))) (ht : ts[t0]? = some .int) (hin : vp_in i n) (hd : decode cc pc = .ok (.iastore, 1))
    (h : Zb cc mL own d mc ms cA (pc + 1) lo st (ws.set q0 (a, .inl (cA .int, n, .inl (upd f i.toNatClampNeg x)))) ts nc ns Qf) : Zb cc mL own d mc ms cA pc lo (.int x :: .int i :: .ref a :: st) ws ts nc ns Qf := by
  intro p l e R s m args below meth c D A Qs K E H locs la hP hD hT hS hl
  exact va_iast K.1.1 K.1.2.1 hT hP hD hS q0 t0 he (by unfold tyC; rw [List.getElem?_map, ht]; rfl) hin hd fun H1 locs1 hP1 hD1 hS1 => h p l e R s m args below meth c D A Qs K E H1 locs1 la hP1 hD1 hT hS1 hl
theorem zb_astq {C : String} {ci N n a v : Nat} {T : u_T} {vs : List Value} {f : Nat → Option Nat} {i : Int32} (q0 t0 qk : Nat) (he : ws[q0]? = some (a, .inl (cA (.object C), n, .inr (.inr (.inr (.inr f)))))) (ht : ts[t0]? = some (.object C)) (hv : ws[qk]? = some (v, .inr (ci, vs))) (hcl : vwCl[ci]? = some (C, T, N)) (hin : vp_in i n) (hd : decode cc pc = .ok (.aastore, 1))
    (h : Zb cc mL own d mc ms cA (pc + 1) lo st (ws.set q0 (a, .inl (cA (.object C), n, .inr (.inr (.inr (.inr (va_up f i.toNatClampNeg (some v)))))))) ts nc ns Qf) : Zb cc mL own d mc ms cA pc lo (.ref v :: .int i :: .ref a :: st) ws ts nc ns Qf := by
  intro p l e R s m args below meth c D A Qs K E H locs la hP hD hT hS hl
  exact va_astq (r := (C, T, N)) K.1.1 K.1.2.1 hT hP hD hS q0 t0 qk ci he (by unfold tyC; rw [List.getElem?_map, ht]; rfl) hv hcl hin hd fun H1 locs1 hP1 hD1 hS1 => h p l e R s m args below meth c D A Qs K E H1 locs1 la hP1 hD1 hT hS1 hl
theorem zb_get {ci N ix a : Nat} {C : String} {T : u_T} {fs : List Value} {v : Value} (hcl : vwCl[ci]? = some (C, T, N)) (hin : ∀ w ∈ u_ws C T N, w ∈ TB) (q0 : Nat) (he : ws[q0]? = some (a, .inr (ci, fs))) (k : Nat) (hk : k < N) (hw : Cond.fieldLink own ix (T k).1 (T k).2.1 (T k).2.2.1 ∈ TB) (hv : fs[k]? = some v) (hd : decode cc pc = .ok (.getfield ix, 3))
    (h : Zb cc mL own d mc ms cA (pc + 3) lo (v :: st) ws ts nc ns Qf) : Zb cc mL own d mc ms cA pc lo (.ref a :: st) ws ts nc ns Qf := by
  intro p l e R s m args below meth c D A Qs K E H locs la hP hD hT hS hl
  exact va_get K.1.1 K.1.2.1 K.1.2.2.2.2 hin K.1.2.2.2.1 hT hP q0 he hcl k hk (K.1.2.2.2.2 _ hw) (fun _ z => z) hv hd (h p l e R s m args below meth c D A Qs K E H locs la hP hD hT hS hl)
theorem zb_alen {a : Nat} {x : vp_A} {ty : FieldType} {v : Int32} (q0 t0 : Nat) (he : ws[q0]? = some (a, .inl (cA ty, x))) (ht : ts[t0]? = some ty) (hv : Int32.ofNat x.1 = v) (hd : decode cc pc = .ok (.arraylength, 1))
    (h : Zb cc mL own d mc ms cA (pc + 1) lo (.int v :: st) ws ts nc ns Qf) : Zb cc mL own d mc ms cA pc lo (.ref a :: st) ws ts nc ns Qf := by
  intro p l e R s m args below meth c D A Qs K E H locs la hP hD hT hS hl
  exact va_alen K.1.1 K.1.2.1 hT hP q0 t0 he (by unfold tyC; rw [List.getElem?_map, ht]; rfl) hv hd (h p l e R s m args below meth c D A Qs K E H locs la hP hD hT hS hl)
theorem nd_range : ∀ n : Nat, va_nd (List.range' 0 n) = true := by
  have key : ∀ (n s : Nat), va_nd (List.range' s n) = true := by
    intro n
    induction n with
    | zero => intro s; rfl
    | succ n ih =>
      intro s
      show (decide (s ∉ List.range' (s + 1) n) && va_nd (List.range' (s + 1) n)) = true
      rw [ih, Bool.and_true, decide_eq_true_eq]
      intro h
      have := List.mem_range'_1.mp h
      omega
  exact fun n => key n 0
theorem cut_c {x : Nat × va_E} : [ws.length].map (fun i => (ws ++ [x])[i]?) = [x].map some := by simp
theorem cut_r {x : Nat × va_E} : (List.range' 0 ws.length).map (fun i => (ws ++ [x])[i]?) = ws.map some := by
  apply List.ext_getElem?
  intro i
  rw [List.getElem?_map, List.getElem?_map]
  by_cases h : i < ws.length
  · rw [List.getElem?_eq_getElem (by rw [List.length_range']; exact h), List.getElem_range', Option.map_some, Nat.zero_add, Nat.one_mul, List.getElem?_append_left h, List.getElem?_eq_getElem h]
    rfl
  · rw [List.getElem?_eq_none (by rw [List.length_range']; omega), List.getElem?_eq_none (by omega)]
    rfl
set_option maxHeartbeats 1000000 in
/-- new C, dup, its constructor -/
theorem zb_mk {y : MethodName} {bytes : ByteArray} {host : String} {mL2 d2 mc2 ms2 ci N ixn ixi : Nat} {C : String} {T : u_T} {tyv : Nat → FieldType} {fs0 : List Value} {Qf2 : Nat → va_W → List FieldType → Prop} (hM : MtI y bytes mL2 d2 mc2 ms2 ci fs0 cA Qf2)
    (hcl : vwCl[ci]? = some (C, T, N)) (hin : ∀ w ∈ u_ws C T N, w ∈ TB) (hty : ∀ k, k < N → parseFieldDescriptor (T k).2.2.1 = some (tyv k)) (hfs : ∀ j, j < N → defaultValue (tyv j) = vp_V fs0 j)
    (w1 : Cond.classLink own ixn C ∈ TB) (w2 : Cond.instantiable C N ∈ TB) (w3 : Cond.initialized C ∈ TB) (hy : okName y 0) (hyn : y.name = "<init>") (w4 : Cond.instanceMethod y ∈ TB) (w5 : Cond.initialized y.cls ∈ TB) (w6 : Cond.code y bytes mL2 none ∈ TB) (w7 : Cond.methodLink own ixi y ∈ TB ∨ (own, ixi, y, host) ∈ NW)
    (hm2 : mL2 ≤ 41) (hd2 : d2 + 1 ≤ d) (hb1 : nc + 1 + mc2 ≤ mc) (hb2 : ns + N + ms2 ≤ ms) (hcat : ∀ q : Nat, (((.ref q :: st) : List Value).map fun v => v.category).sum ≤ 8)
    (hi1 : decode cc pc = .ok (.new ixn, 3)) (hi2 : decode cc (pc + 3) = .ok (.dup, 1)) (hi3 : decode cc (pc + 4) = .ok (.invokespecial ixi, 3))
    (h : ∀ (q : Nat) (w : va_W) (t : List FieldType), Qf2 q w t → Zb cc mL own d mc ms cA (pc + 7) lo (.ref q :: st) (ws ++ w) (ts ++ t) (nc + 1 + mc2) (ns + N + ms2) Qf) : Zb cc mL own d mc ms cA pc lo st ws ts nc ns Qf := by
  intro p l e R s m args below meth c D A Qs K E H locs la hP hD hT hS hl
  obtain ⟨⟨k1, k2, k3, k4, k5⟩, kn, kK, kC, kN, kA, kR⟩ := id K
  refine va_new k1 k2 k5 hin tyv hty k4 (k5 _ w1) (k5 _ w2) (k5 _ w3) hT hP hD hS kA hcl hfs (by omega) (by omega) hi1 fun q H1 hP1 hD1 hS1 => ?_
  refine lv_dup k1 k2 hi2 rfl ?_
  have hPc := hP1.sub (ws' := [(q, .inr (ci, fs0))]) [ws.length] (by simp)
  have hDc := hD1.sub (ws' := [(q, .inr (ci, fs0))]) [ws.length] (by simp [va_nd]) (by simp)
  have hFc := va_free (wc := [(q, .inr (ci, fs0))]) hD1 hS1 kA [ws.length] cut_c
  have hpre : PreS s H1 (va_Pc [.ref q] (PIn D cA ci fs0 q H1.size)) (.ref q :: []) := ⟨PI_blind, fun U hU hW => ⟨rfl, by rw [hU], by rw [hU]; exact hPc, va_K.moved hW.alike kK, caOK_al hW.alike kC, nwOK_warm hW kN, hDc.weaken (fun _ _ _ _ => trivial)⟩⟩
  have hrun : va_Run p l e R s m args below meth c H1 locs (nc + 1) (ns + N) mc2 ms2 (F0 m (pc + 4) la (.ref q :: .ref q :: st)) (.ref q :: st) (va_Qv (fun u : va_W × List FieldType => Qf2 q u.1 u.2) (fun u t => va_P D vwCl u.1 t.heap ∧ va_K D vwCl (tyC cA u.2) t ∧ va_D (va_A [(q, .inr (ci, fs0))] H1.size) u.1) (va_A [(q, .inr (ci, fs0))] H1.size) (Value.ref q :: []).toArray) (va_A [(q, .inr (ci, fs0))] H1.size) := by
    rcases w7 with w7 | w7
    · exact va_runI (As := []) (rest := .ref q :: st) ⟨k1, k2, k3, k4, k5⟩ (hM q H1.size l D) ⟨callB_of (R := R) 0 k5 (z_goodC w6) rfl rfl rfl (k5 _ w5) (k5 _ w7) hy ⟨by show d2 + 1 ≤ R.frames; omega, by show 8 + (mL2 + 11) + 60 * d2 ≤ R.locals; omega⟩, hyn, k5 _ w4⟩ hpre rfl rfl hl.1 rfl (lv_room (hcat q)) hi3 ⟨by omega, by omega⟩
    · exact va_runIN (As := []) (rest := .ref q :: st) ⟨k1, k2, k3, k4, k5⟩ (hM q H1.size l D) ⟨va_cnB (R := R) 0 k5 (z_goodC w6) rfl rfl rfl (kN.1 _ w7) (k5 _ w5) hy ⟨by show d2 + 1 ≤ R.frames; omega, by show 8 + (mL2 + 11) + 60 * d2 ≤ R.locals; omega⟩, hyn, k5 _ w4⟩ hpre rfl rfl hl.1 rfl (lv_room (hcat q)) hi3 ⟨by omega, by omega⟩
  refine va_callv hrun hS1 (fun q2 _ h2 => hFc q2 h2) hFc fun u t H2 locs2 ht hvm hw hB hz1 hk1 hS2 => ?_
  obtain ⟨hP2, hK2, hD2⟩ := hB
  rw [ht] at hP2
  have hK2 := va_K.moved hvm.symm hK2
  obtain ⟨hP3, hD3⟩ := va_join (wr := ws) (w1 := u.1) hP1 hD1 [ws.length] (List.range' 0 ws.length) cut_c cut_r (nd_range _) (fun i hi z => by
    have := List.mem_range'_1.mp hi
    rw [List.mem_singleton] at z
    omega) hk1 hFc hP2 hD2
  refine h q u.1 u.2 hw p l e R s m args below meth c D A Qs K E H2 locs2 la hP3 hD3 ?_ hS2 hl
  unfold tyC at hT hK2 ⊢
  rw [List.map_append]
  exact hT.app hK2
end
