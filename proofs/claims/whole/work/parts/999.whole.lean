/-! THE CLAIM OUT OF ONE WALK OF THE LAW'S BODY. Your part is whole_start (and what it stands on); all else here is the same for every law, but numbers. -/
def R_law : String := "OnOneBreathLaw"
def lw_P (b : Addr) (xs : List Int32) (args : Array Value) (s : State) : Prop := args = #[.ref b] ∧ s.IntsAt b xs ∧ xs.length ≤ 3072 ∧ (Jvm.Cond.and given_1 narrow_1).before args s = true
def lw_Q (_ : Array Value) (s : State) (o : Outcome) (t : State) : Prop := o = .returned (some (.int 1)) ∧ Framed s o t [] 600000 7302250
def lw_Z (below : List Frame) (a : Array Value) (s : State) : State → Prop := fun t => ∃ o, t.status = .running ∧ Ended t below o ∧ lw_Q a s o t
/-- the law's own end, with 1 on the stack, nothing written that was there before, its room as the claim has it -/
theorem lw_ret {p : Program} {l : Launch} {e : Env} {s : State} {m : MethodId} {below : List Frame} {meth : Method} {c : Code} {b : Nat} (hx : p.tables.exec = Jvm.exec) (hb : c.code = code) (hr : meth.sig.returnType = ret) (hlocks : meth.locks = false) {pc : Nat} {H : Heap} {ls : Array Slot} (hdg : decode code pc = .ok (.ireturn, 1)) : W p l e room_1 s m #[Value.ref b] below meth c H [] 600000 7302250 (lw_Z below #[Value.ref b] s) (F0 m pc ls [.int 1]) := by
  intro T hT X
  obtain ⟨fs, hret, hrun, hended, hW, hframe⟩ := X.leave (v := some (.int 1)) (hlocks := hlocks) (fun h => by rw [hr] at h; cases h)
  have hmeth' : T.vm.method? m = some meth := X.method'
  refine ⟨T.setFrames fs, ?_, .returned (some (.int 1)), hrun, hended, rfl, ⟨_, rfl⟩, hW, hframe⟩
  jvm_step X.here [X.here.top, hx, hb, hdg, hmeth', hr, ret, narrow_b1]
  (try refine ⟨rfl, ?_⟩); (try refine ⟨rfl, ?_⟩)
  first | (intro acts; rw [hret _ acts rfl rfl rfl]) | rw [hret _ _ rfl rfl rfl]
  exact Steps.refl _
/-- what holds at the law's entry: the machine, the code, the tables' words (any of lw_tbl by 'hts w (by decide +kernel)'), the script of L ints xs at the cell b, what the Statement gives of the start (any of its parts by flat_of_before) -/
def lw_At (p : Program) (s : State) (m : MethodId) (meth : Method) (c : Code) (b L : Nat) (xs : Nat → Int32) : Prop :=
  p.tables.exec = Jvm.exec ∧ c.code = code ∧ meth.sig.returnType = ret ∧ c.maxLocals = 4 ∧ s.vm.findClass R_law = some m.cls ∧ (∀ w ∈ lw_tbl, w.before #[Value.ref b] s = true) ∧ va_X b L xs s s.heap ∧ b < s.heap.size ∧ meth.locks = false ∧ (Jvm.Cond.and given_1 narrow_1).before #[Value.ref b] s = true
theorem lk_7 : Cond.classLink RL 7 RX11 ∈ TB := TB_of (List.mem_append_right _ (List.mem_of_getElem? (i := 23) (by decide +kernel))) rfl
theorem lk_10 : Cond.classLink RL 10 RX12 ∈ TB := TB_of (List.mem_append_right _ (List.mem_of_getElem? (i := 1131) (by decide +kernel))) rfl
theorem lk_9 : Cond.methodLink RL 9 yX11_init ∈ TB := TB_of (List.mem_append_right _ (List.mem_of_getElem? (i := 25) (by decide +kernel))) rfl
theorem lk_12 : Cond.methodLink RL 12 yX12_init ∈ TB := TB_of (List.mem_append_right _ (List.mem_of_getElem? (i := 1133) (by decide +kernel))) rfl
set_option maxHeartbeats 1000000 in
/-- the law's own new C, dup, its constructor -/
theorem wb_mk {p : Program} {l : Launch} {e : Env} {R : Room} {s : State} {m : MethodId} {args : Array Value} {below : List Frame} {meth : Method} {c : Code} {D : va_G} {A : Nat → Prop} {Qs : State → Prop} {cc : ByteArray} {mL : Nat} {own : String} {cA : ZCA} (K : CallFix p m c cc mL s args TB own) (kK : va_K D vwCl [] s) (kC : caOK cA s) (kN : nwOK s) (kA : ∀ q, s.heap.size ≤ q → A q)
    {y : MethodName} {bytes : ByteArray} {mL2 d2 mc2 ms2 ci N ixn ixi : Nat} {C : String} {T : u_T} {tyv : Nat → FieldType} {fs0 : List Value} {Qf2 : Nat → va_W → List FieldType → Prop} (hM : MtI y bytes mL2 d2 mc2 ms2 ci fs0 cA Qf2)
    (hcl : vwCl[ci]? = some (C, T, N)) (hin : ∀ w ∈ u_ws C T N, w ∈ TB) (hty : ∀ k, k < N → parseFieldDescriptor (T k).2.2.1 = some (tyv k)) (hfs : ∀ j, j < N → defaultValue (tyv j) = vp_V fs0 j)
    (w1 : Cond.classLink own ixn C ∈ TB) (w2 : Cond.instantiable C N ∈ TB) (w3 : Cond.initialized C ∈ TB) (hy : okName y 0) (hyn : y.name = "<init>") (w4 : Cond.instanceMethod y ∈ TB) (w5 : Cond.initialized y.cls ∈ TB) (w6 : Cond.code y bytes mL2 none ∈ TB) (w7 : Cond.methodLink own ixi y ∈ TB)
    {cells slots : Nat} (hroom : d2 + 1 ≤ R.frames ∧ 8 + (mL2 + 11) + 60 * d2 ≤ R.locals ∧ cells + 1 + mc2 ≤ R.cells ∧ slots + N + ms2 ≤ R.slots) {pc : Nat} {ws : va_W} {ts : List FieldType} {H : Heap} {locs : List Loc} {la : Array Slot} (hP : va_P D vwCl ws H) (hD : va_D A ws) (hT : va_K D vwCl (tyC cA ts) s) (hS : va_S A s.heap H locs) (hl : la.size = mL)
    (hi1 : decode cc pc = .ok (.new ixn, 3)) (hi2 : decode cc (pc + 3) = .ok (.dup, 1)) (hi3 : decode cc (pc + 4) = .ok (.invokespecial ixi, 3))
    (h : ∀ (q : Nat) (w : va_W) (t : List FieldType) (H2 : Heap) (locs2 : List Loc), Qf2 q w t → va_P D vwCl (ws ++ w) H2 → va_D A (ws ++ w) → va_K D vwCl (tyC cA (ts ++ t)) s → va_S A s.heap H2 locs2 → W p l e R s m args below meth c H2 locs2 (cells + 1 + mc2) (slots + N + ms2) Qs (F0 m (pc + 7) la [.ref q])) : W p l e R s m args below meth c H locs cells slots Qs (F0 m pc la []) := by
  obtain ⟨k1, k2, k3, k4, k5⟩ := K
  refine va_new k1 k2 k5 hin tyv hty k4 (k5 _ w1) (k5 _ w2) (k5 _ w3) hT hP hD hS kA hcl hfs (by omega) (by omega) hi1 fun q H1 hP1 hD1 hS1 => ?_
  refine lv_dup k1 k2 hi2 rfl ?_
  have hPc := hP1.sub (ws' := [(q, .inr (ci, fs0))]) [ws.length] (by simp)
  have hDc := hD1.sub (ws' := [(q, .inr (ci, fs0))]) [ws.length] (by simp [va_nd]) (by simp)
  have hFc := va_free (wc := [(q, .inr (ci, fs0))]) hD1 hS1 kA [ws.length] cut_c
  have hpre : PreS s H1 (va_Pc [.ref q] (PIn D cA ci fs0 q H1.size)) (.ref q :: []) := ⟨PI_blind, fun U hU hW => ⟨rfl, by rw [hU], by rw [hU]; exact hPc, va_K.moved hW.alike kK, caOK_al hW.alike kC, nwOK_warm hW kN, hDc.weaken (fun _ _ _ _ => trivial)⟩⟩
  have hrun : va_Run p l e R s m args below meth c H1 locs (cells + 1) (slots + N) mc2 ms2 (F0 m (pc + 4) la [.ref q, .ref q]) [.ref q] (va_Qv (fun u : va_W × List FieldType => Qf2 q u.1 u.2) (fun u t => va_P D vwCl u.1 t.heap ∧ va_K D vwCl (tyC cA u.2) t ∧ va_D (va_A [(q, .inr (ci, fs0))] H1.size) u.1) (va_A [(q, .inr (ci, fs0))] H1.size) (Value.ref q :: []).toArray) (va_A [(q, .inr (ci, fs0))] H1.size) :=
    va_runI (As := []) (rest := [.ref q]) ⟨k1, k2, k3, k4, k5⟩ (hM q H1.size l D) ⟨callB_of (R := R) 0 k5 (z_goodC w6) rfl rfl rfl (k5 _ w5) (k5 _ w7) hy ⟨hroom.1, hroom.2.1⟩, hyn, k5 _ w4⟩ hpre rfl rfl hl rfl (lv_room (Nat.le_of_ble_eq_true rfl)) hi3 ⟨by omega, by omega⟩
  refine va_callv hrun hS1 (fun q2 _ h2 => hFc q2 h2) hFc fun u t H2 locs2 ht hvm hw hB hz1 hk1 hS2 => ?_
  obtain ⟨hP2, hK2, hD2⟩ := hB
  rw [ht] at hP2
  have hK2 := va_K.moved hvm.symm hK2
  obtain ⟨hP3, hD3⟩ := va_join (wr := ws) (w1 := u.1) hP1 hD1 [ws.length] (List.range' 0 ws.length) cut_c cut_r (nd_range _) (fun i hi z => by
    have := List.mem_range'_1.mp hi
    rw [List.mem_singleton] at z
    omega) hk1 hFc hP2 hD2
  refine h q u.1 u.2 H2 locs2 hw hP3 hD3 ?_ hS2
  unfold tyC at hT hK2 ⊢
  rw [List.map_append]
  exact hT.app hK2
theorem kn_all {s : State} {args : Array Value} (htb : ∀ w ∈ TB, w.before args s = true) : ∃ D : va_G, ∀ (k : Nat) (q : vw_C), vwCl[k]? = some q → u_Kn s q.1 q.2.1 q.2.2 (D.1 k) (D.2 k) := by
  obtain ⟨c0, i0, h0⟩ := u_known (C := RX0) (T := TX0) (N := 4) (n := 4) htb tbX0 (htb _ in_X0)
  obtain ⟨c1, i1, h1⟩ := u_known (C := RX1) (T := TX1) (N := 6) (n := 6) htb tbX1 (htb _ in_X1)
  obtain ⟨c2, i2, h2⟩ := u_known (C := RX2) (T := TX2) (N := 8) (n := 8) htb tbX2 (htb _ in_X2)
  obtain ⟨c3, i3, h3⟩ := u_known (C := RX3) (T := TX3) (N := 5) (n := 5) htb tbX3 (htb _ in_X3)
  obtain ⟨c4, i4, h4⟩ := u_known (C := RX4) (T := TX4) (N := 5) (n := 5) htb tbX4 (htb _ in_X4)
  obtain ⟨c5, i5, h5⟩ := u_known (C := RX5) (T := TX5) (N := 5) (n := 5) htb tbX5 (htb _ in_X5)
  obtain ⟨c6, i6, h6⟩ := u_known (C := RX6) (T := TX6) (N := 4) (n := 4) htb tbX6 (htb _ in_X6)
  obtain ⟨c7, i7, h7⟩ := u_known (C := RX7) (T := TX7) (N := 14) (n := 14) htb tbX7 (htb _ in_X7)
  obtain ⟨c8, i8, h8⟩ := u_known (C := RX8) (T := TX8) (N := 9) (n := 9) htb tbX8 (htb _ in_X8)
  obtain ⟨c9, i9, h9⟩ := u_known (C := RX9) (T := TX9) (N := 4) (n := 4) htb tbX9 (htb _ in_X9)
  obtain ⟨c10, i10, h10⟩ := u_known (C := RX10) (T := TX10) (N := 5) (n := 5) htb tbX10 (htb _ in_X10)
  obtain ⟨c11, i11, h11⟩ := u_known (C := RX11) (T := TX11) (N := 10) (n := 10) htb tbX11 (htb _ in_X11)
  obtain ⟨c12, i12, h12⟩ := u_known (C := RX12) (T := TX12) (N := 63) (n := 63) htb tbX12 (htb _ in_X12)
  refine ⟨(fun k => if k = 0 then c0 else if k = 1 then c1 else if k = 2 then c2 else if k = 3 then c3 else if k = 4 then c4 else if k = 5 then c5 else if k = 6 then c6 else if k = 7 then c7 else if k = 8 then c8 else if k = 9 then c9 else if k = 10 then c10 else if k = 11 then c11 else c12, fun k => if k = 0 then i0 else if k = 1 then i1 else if k = 2 then i2 else if k = 3 then i3 else if k = 4 then i4 else if k = 5 then i5 else if k = 6 then i6 else if k = 7 then i7 else if k = 8 then i8 else if k = 9 then i9 else if k = 10 then i10 else if k = 11 then i11 else i12), ?_⟩
  intro k q hq
  match k, hq with
  | 0, hq => cases hq; exact h0
  | 1, hq => cases hq; exact h1
  | 2, hq => cases hq; exact h2
  | 3, hq => cases hq; exact h3
  | 4, hq => cases hq; exact h4
  | 5, hq => cases hq; exact h5
  | 6, hq => cases hq; exact h6
  | 7, hq => cases hq; exact h7
  | 8, hq => cases hq; exact h8
  | 9, hq => cases hq; exact h9
  | 10, hq => cases hq; exact h10
  | 11, hq => cases hq; exact h11
  | 12, hq => cases hq; exact h12
  | k + 13, hq => simp at hq
theorem ca_ok {s : State} (c0 : ClassId) : caOK (fun ty => (s.vm.findClass ("[" ++ ty.toString)).getD c0) s := by
  intro ty c hc
  have h : s.vm.findClass ("[" ++ ty.toString) = some c := by
    cases ty <;> first | exact hc | (obtain ⟨_, _, _, _, _, h⟩ := hc; exact h)
  show c = (s.vm.findClass ("[" ++ ty.toString)).getD c0
  rw [h]
  rfl
set_option maxRecDepth 100000 in
set_option maxHeartbeats 4000000 in
theorem world_st {cA : ZCA} {H : Heap} {A : Nat → Prop} {D : va_G} {s : State} (st : Nat → Nat) {h11 h12 : Nat} {w11 w12 : va_W} {t11 t12 : List FieldType} (e1 : bX11 cA h11 w11 t11) (e2 : bX12 cA h12 w12 t12) (hP : va_P D vwCl (w11 ++ w12) H) (hD : va_D A (w11 ++ w12)) (hK : va_K D vwCl (tyC cA (t11 ++ t12)) s) :
    ∃ f : Nat → Nat → Nat, f 11 0 = h11 ∧ f 12 0 = h12 ∧ (va_P D vwCl (wsW cA (mkA st f) mem0) H ∧ va_D A (wsW cA (mkA st f) mem0)) ∧ va_K D vwCl (tysW cA) s := by
  obtain ⟨q0, q1, q2, q3, q4, q5, q6, q7, q8, q9, q10, q11, q12, q13, q14, q15, q16, q17, q18, q19, q20, q21, q22, q23, q24, q25, q26, q27, q28, q29, q30, q31, q32, q33, q34, q35, q36, q37, q38, q39, q40, q41, q42, q43, q44, q45, q46, q47, q48, q49, q50, q51, q52, q53, q54, q55, q56, q57, q58, q59, q60, q61, q62, q63, q64, q65, q66, q67, q68, q69, q70, q71, q72, q73, q74, q75, q76, q77, q78, rfl, rfl⟩ := e1
  obtain ⟨r0, r1, r2, r3, r4, r5, r6, r7, r8, r9, r10, r11, r12, r13, r14, r15, r16, r17, r18, r19, r20, r21, r22, r23, r24, r25, r26, r27, r28, r29, r30, r31, r32, r33, r34, r35, rfl, rfl⟩ := e2
  refine ⟨fun k j => if k = 0 then q57 else if k = 1 then q52 else if k = 2 then q0 else if k = 3 then (if j = 0 then q5 else q63) else if k = 4 then q61 else if k = 5 then q49 else if k = 6 then q41 else if k = 7 then (if j = 0 then q9 else if j = 1 then q17 else if j = 2 then q21 else if j = 3 then q25 else if j = 4 then q29 else if j = 5 then q33 else q37) else if k = 8 then q13 else if k = 9 then q44 else if k = 10 then (if j = 0 then q67 else if j = 1 then q69 else if j = 2 then q71 else if j = 3 then q73 else if j = 4 then q75 else q77) else if k = 11 then h11 else if k = 12 then h12 else if k = 100 then q58 else if k = 101 then q59 else if k = 200 then q53 else if k = 201 then q54 else if k = 202 then q55 else if k = 203 then q56 else if k = 300 then q1 else if k = 301 then q2 else if k = 302 then q3 else if k = 303 then q4 else if k = 400 then (if j = 0 then q6 else q64) else if k = 401 then (if j = 0 then q7 else q65) else if k = 402 then (if j = 0 then q8 else q66) else if k = 500 then q62 else if k = 600 then q50 else if k = 601 then q51 else if k = 700 then q42 else if k = 701 then q43 else if k = 800 then (if j = 0 then q10 else if j = 1 then q18 else if j = 2 then q22 else if j = 3 then q26 else if j = 4 then q30 else if j = 5 then q34 else q38) else if k = 801 then (if j = 0 then q11 else if j = 1 then q19 else if j = 2 then q23 else if j = 3 then q27 else if j = 4 then q31 else if j = 5 then q35 else q39) else if k = 802 then (if j = 0 then q12 else if j = 1 then q20 else if j = 2 then q24 else if j = 3 then q28 else if j = 4 then q32 else if j = 5 then q36 else q40) else if k = 900 then q14 else if k = 901 then q15 else if k = 902 then q16 else if k = 1000 then q45 else if k = 1001 then q46 else if k = 1002 then q47 else if k = 1003 then q48 else if k = 1100 then (if j = 0 then q68 else if j = 1 then q70 else if j = 2 then q72 else if j = 3 then q74 else if j = 4 then q76 else q78) else if k = 1208 then q60 else if k = 1302 then r0 else if k = 1303 then r1 else if k = 1304 then r2 else if k = 1305 then r3 else if k = 1306 then r4 else if k = 1309 then r5 else if k = 1310 then r6 else if k = 1311 then r7 else if k = 1312 then r8 else if k = 1313 then r9 else if k = 1319 then r10 else if k = 1320 then r11 else if k = 1321 then r12 else if k = 1322 then r13 else if k = 1323 then r14 else if k = 1324 then r15 else if k = 1325 then r16 else if k = 1327 then r17 else if k = 1328 then r18 else if k = 1337 then r19 else if k = 1338 then r20 else if k = 1342 then r21 else if k = 1343 then r22 else if k = 1345 then r23 else if k = 1346 then r24 else if k = 1347 then r25 else if k = 1348 then r26 else if k = 1350 then r27 else if k = 1353 then r28 else if k = 1354 then r29 else if k = 1356 then r30 else if k = 1358 then r31 else if k = 1359 then r32 else if k = 1360 then r33 else if k = 1361 then r34 else r35, rfl, rfl, start_w hP hD, hK.sub [0, 65, 69, 50, 10, 45] rfl⟩
/-- YOUR PART: from the entry, for every script of at most 3072 ints, the law comes to its end with true ('hflags': the launch's flags, for a law that throws: no stack traces) -/
theorem whole_start {p : Program} {e : Env} {s : State} {m : MethodId} {below : List Frame} {meth : Method} {c : Code} (l : Launch) (hflags : l.flags = flags0) {b L : Nat} {xs : Nat → Int32} (hL : L ≤ 3072) (C0 : lw_At p s m meth c b L xs) : W p l e room_1 s m #[Value.ref b] below meth c s.heap [] 0 0 (lw_Z below #[Value.ref b] s) (entryFrame m ([Value.ref b] : List Value).toArray 4) := by
  obtain ⟨hx, hb, hr, hml, hown, hts, hX, hbl, hlocks, hgv⟩ := id C0
  have htb : ∀ w ∈ TB, w.before #[Value.ref b] s = true := fun w hw => hts w (TB_in hw)
  obtain ⟨D, hKc⟩ := kn_all htb
  generalize hAe : (fun q : Nat => s.heap.size ≤ q) = A
  have hA : ∀ q : Nat, s.heap.size ≤ q → A q := fun q h => by rw [← hAe]; exact h
  have hAn : ∀ q : Nat, q < s.heap.size → ¬ A q := fun q h => by rw [← hAe]; exact Nat.not_le.mpr h
  have hAi : ∀ q : Nat, A q → s.heap.size ≤ q := fun q h => by rw [← hAe] at h; exact h
  have hC := ca_ok (s := s) (D.1 0)
  generalize (fun ty : FieldType => (s.vm.findClass ("[" ++ ty.toString)).getD (D.1 0)) = cA at hC
  have hN : nwOK s := ⟨fun q hq => va_Nw.of rfl (hts _ (nw_in q hq)), fun C hc => by
    rcases hc with rfl | rfl
    · exact va_AO.of (hts _ ao_0)
    · exact va_AO.of (hts _ ao_1)⟩
  have hCF : CallFix p m c cL_law 4 s #[Value.ref b] TB RL := ⟨hx, hb, hml, hown, htb⟩
  have hK : va_K D vwCl [] s := ⟨hKc, fun k q h => by simp at h⟩
  have hP : va_P D vwCl [] s.heap := fun k q h => by simp at h
  have hD : va_D A [] := ⟨fun i j p q h => by simp at h, fun k q h => by simp at h⟩
  have hS : va_S A s.heap s.heap [] := va_S.rf
  have hl := lv_entry ([.ref b]) (n := 4) (Nat.le_of_ble_eq_true rfl)
  rw [lg_entry_eq]
  generalize (lg_sl ([.ref b]) ++ List.replicate (4 - (lg_sl ([.ref b])).length) Slot.unset).toArray = la at hl ⊢
  have hl : lv_has la 4 [(0, .ref b)] := hl
  obtain ⟨st, hst, hRom⟩ := rom_start (A := A) hgv hts hAn hX (hAn b hbl)
  refine wb_mk (ws := []) (ts := []) (fs0 := fsX11) hCF hK hC hN hA (mk_X11 (cA := cA)) rfl tbX11 tyX11_ok df_X11 lk_7 in_X11 id_X11 io_X11 rfl ii_X11 id_X11 ic_X11 lk_9 ⟨by decide, by decide, by decide, by decide⟩ hP hD hK hS hl.1 dL_law_0 dL_law_3 dL_law_4 fun h11 w11 t11 H1 locs1 e1 hP1 hD1 hK1 hS1 => ?_
  refine lv_astore_n (lv' := [(1, .ref h11), (0, .ref b)]) hx hb dL_law_7 rfl hl (by decide) rfl (fun la hl => ?_)
  refine wb_mk (ws := [] ++ w11) (ts := [] ++ t11) (fs0 := fsX12) hCF hK hC hN hA (mk_X12 (cA := cA)) rfl tbX12 tyX12_ok df_X12 lk_10 in_X12 id_X12 io_X12 rfl ii_X12 id_X12 ic_X12 lk_12 ⟨by decide, by decide, by decide, by decide⟩ hP1 hD1 hK1 hS1 hl.1 dL_law_8 dL_law_11 dL_law_12 fun h12 w12 t12 H2 locs2 e2 hP2 hD2 hK2 hS2 => ?_
  refine lv_astore_n (lv' := [(2, .ref h12), (1, .ref h11), (0, .ref b)]) hx hb dL_law_15 rfl hl (by decide) rfl (fun la hl => ?_)
  refine lv_iconst (v := 0) hx hb dL_law_16 (by decide) ?_
  refine lv_istore_n (lv' := [(3, .int 0), (2, .ref h12), (1, .ref h11), (0, .ref b)]) hx hb dL_law_17 rfl hl (by decide) rfl (fun la hl => ?_)
  obtain ⟨f, f11, f12, ⟨hP3, hD3⟩, hK3⟩ := world_st (s := s) st e1 e2 (by rw [List.nil_append] at hP2; exact hP2) (by rw [List.nil_append] at hD2; exact hD2) (by rw [List.nil_append] at hK2; exact hK2)
  have hlen : ((List.range L).map fun i => (xs i).toInt).length = L := by simp
  have hY := law_go (L := (List.range L).map fun i => (xs i).toInt) (fun v hv => by
    obtain ⟨i, -, rfl⟩ := List.mem_map.mp hv
    exact ri_t _) (by rw [hlen]; exact hL) L 0 mem0 (by omega) (by rw [hlen]; omega) mem0_al (by decide) (by decide)
  refine hY p l e room_1 s m #[Value.ref b] below meth c D cA (mkA st f) A _ _ _ ⟨hCF, hK3, fun mem => wsD (fun _ _ z => z) hD3, hA, ⟨by decide, by decide, Nat.le_of_ble_eq_true rfl, Nat.le_of_ble_eq_true rfl⟩, hRom f, ?_⟩ H2 locs2 la hP3 hS2 (Lh_of hl fun i v hv => ?_) ?_ (fun v hv => by simp at hv) mem0_wf
  · intro pc la2 r mem H locs hd hQ hw hm2 hPm hSm
    have hr1 : r = some (vi 1) := hQ
    subst hr1
    refine va_forget (fun q hq => hAi _ (hSm.2.2 q hq)) (W.widen (k := 600000) (n := 7302250) (Nat.le_of_ble_eq_true rfl) (Nat.le_of_ble_eq_true rfl) ?_)
    exact lw_ret hx hb hr hlocks hd
  · match i, hv with
    | 0, hv =>
      cases hv
      show (0, Value.ref (st 2010)) ∈ _
      rw [hst]
      simp
    | 1, hv =>
      cases hv
      show (1, Value.ref (f 11 0)) ∈ _
      rw [f11]
      simp
    | 2, hv =>
      cases hv
      show (2, Value.ref (f 12 0)) ∈ _
      rw [f12]
      simp
    | 3, hv =>
      cases hv
      show (3, Value.int (j32 0)) ∈ _
      rw [show j32 0 = 0 by decide]
      simp
    | n + 4, hv => simp at hv
  · intro v hv
    simp only [List.mem_cons, List.not_mem_nil, or_false, Option.some.injEq] at hv
    rcases hv with rfl | rfl | rfl | rfl
    · show 0 < kCnt 2010
      decide
    · show 0 < kCnt 11
      decide
    · show 0 < kCnt 12
      decide
    · exact ⟨by decide, by decide⟩
set_option maxHeartbeats 4000000 in
theorem lw_walk (l : Launch) (hflags : l.flags = flags0) (b : Addr) (xs : List Int32) : MetFree l x (headSpec (Jvm.Cond.code x code maxLocals ret :: tables_1) room_1) (lw_P b xs) (fun _ _ _ _ _ => True) lw_Q := by
  refine MetFree.of_bodyS (code := code) (maxLocals := maxLocals) (ret := ret) (by decide) ?_ ?_
  · intro args s m h hn
    obtain ⟨meth, c, h1, h2, h3, h4, h5, h6, -, -⟩ := Cond.code_spec hn (atoms_spec (ws := Jvm.Cond.code x code maxLocals ret :: tables_1) h _ List.mem_cons_self)
    exact ⟨meth, c, h1, h2, h3, h4, h5, h6⟩
  · intro p e s m args below meth c s₁ B hml0 hP _
    obtain ⟨rfl, hx, hbd, hgv⟩ := hP
    obtain ⟨scr, harrAt, hlist, hof, hsmall⟩ := hx
    obtain ⟨hcb, hkn, -, -⟩ := State.arrayAt?_spec harrAt
    have hown : s.vm.findClass R_law = some m.cls := findClass_of_methodNamed B.named
    have hts0 : ∀ c ∈ (Jvm.Cond.code x code maxLocals ret :: tables_1), c.before #[Value.ref b] s = true := atoms_spec (ws := Jvm.Cond.code x code maxLocals ret :: tables_1) B.pre
    have hts : ∀ w ∈ lw_tbl, w.before #[Value.ref b] s = true := k2_hts_sels lw_privs (fun w hw => hts0 w (List.mem_cons_of_mem _ hw)) lw_privs_ok
    have hml : c.maxLocals = 4 := B.maxLocals_eq (hts0 _ List.mem_cons_self)
    have X₀ : Stand p l e room_1 s m #[Value.ref b] below meth c s₁ [] 0 0 := Stand.of_body B
    have hh0 : s₁.heap = s.heap := by rw [B.state]; rfl
    have hsz : scr.slots.size = xs.length := by rw [← Array.length_toList, hlist, List.length_map]
    have hval : ∀ j : Nat, j < xs.length → scr.slots[j]? = some (.int (xs.getD j 0)) := fun j hj => by
      rw [← Array.getElem?_toList, hlist]
      simp [hj]
    have hbl : b < s.heap.size := (Array.getElem?_eq_some_iff.mp hcb).1
    have hX : va_X b xs.length (fun j => xs.getD j 0) s s.heap := ⟨scr, hcb, hof, hkn, hsz, hval⟩
    have K : W p l e room_1 s m #[Value.ref b] below meth c s₁.heap [] 0 0 (lw_Z below #[Value.ref b] s) (entryFrame m ([Value.ref b] : List Value).toArray 4) := by
      rw [hh0]
      exact whole_start l hflags hbd ⟨B.exec, B.bytes, B.returns, hml, hown, hts, hX, hbl, B.notSynchronized, hgv⟩
    obtain ⟨t, a1, o, b1, b2, b3⟩ := K s₁ rfl X₀
    exact ⟨t, o, a1, b1, b2, b3⟩
theorem lw_pre_spec {args : Array Value} {s : State} (h : (Jvm.Cond.and given_1 narrow_1).before args s = true) (hr : rest_1_c.before args s = true) : ∃ (b : Addr) (xs : List Int32), lw_P b xs args s := by
  have hs := flat_of_before _ h
  have hq := flat_of_before _ hr
  have hc : (Cond.count 1).before args s = true := hs _ (by decide +kernel)
  have harr : (Cond.arrayOf (.arg 0) .int).before args s = true := hs _ (by decide +kernel)
  have hle : (Cond.le (.length (.arg 0)) (.int 3072)).before args s = true := hs _ (by decide +kernel)
  have hlen : (Cond.isInt (.length (.arg 0))).before args s = true := hq _ (by decide +kernel)
  have hall : (Cond.all (.arg 0) (.isInt (.elem (.arg 0) (.index 0)))).before args s = true := hq _ (by decide +kernel)
  obtain ⟨b, xs, hb, hx⟩ := State.ints_of_pre rfl harr hlen hall
  have hsm : xs.length < 2 ^ 31 := hx.choose_spec.2.2.2
  have hev : (Term.length (.arg 0)).eval args s none [] s = some (.int xs.length.toInt32) := hx.length_eval hb
  have hv := Cond.le_ints hev (show (Term.int 3072).eval args s none [] s = some (.int 3072) from rfl)
  have hd : xs.length.toInt32 ≤ 3072 := by
    simpa [Cond.before, Cond.holds, hv] using hle
  have hN : xs.length ≤ 3072 := (Int32.ofNat_le_ofNat hsm (by decide)).mp (show Int32.ofNat xs.length ≤ Int32.ofNat 3072 from hd)
  exact ⟨b, xs, Cond.one_arg hc (show args[0]? = some (.ref b) from hb), hx, hN, h⟩
theorem lw_comes (l : Launch) (hflags : l.flags = flags0) : Comes l x (Jvm.Cond.code x code maxLocals ret :: tables_1) room_1 (fun tb e args s => Calls_1 tb e args s ∧ rest_1 tb e args s ∧ Pre_1 tb e args s)
    (fun _ _ args s o t => lw_Q args s o t) := by
  intro p e ha hc hk s m args below hf hfit hheap happ hpre
  obtain ⟨b, xs, hP⟩ := lw_pre_spec hpre.2.2 hpre.2.1
  obtain ⟨k, o, h1, h2, h3, hQ⟩ := lw_walk l hflags b xs p e ha hc hk s m args below hf ((Spec.applies_iff_loose hf).mp happ).1 hP trivial
  exact ⟨k, o, h1, h2, h3, hQ⟩
theorem lw_frame {s t : State} {o : Outcome} {args : Array Value} (h : Framed s o t [] 600000 7302250) :
    Framed s o t (fieldLocs frame_1_writes args s ++ arrayLocs frame_1_arrays args s ++ staticLocs frame_1_statics s) 600000 7302250 := h
theorem lw_limb (L : Cond) (hL : ∀ (args : Array Value) (s t : State), L.after args s (.returned (some (.int 1))) t = true) :
    ArmFor flags0 classFile x code maxLocals ret World_1 tables_1 room_1 Calls_1 rest_1 Pre_1
      (fun tb e a s o t => postC L tb e a s o t ∧ Framed s o t (fieldLocs frame_1_writes a s ++ arrayLocs frame_1_arrays a s ++ staticLocs frame_1_statics s) 600000 7302250) := by
  intro l hflags _ _ p e ha hc hk s m args below hf hfit hheap happ hpre
  obtain ⟨k, o, h1, h2, h3, rfl, hF⟩ := lw_comes l hflags p e ha hc hk s m args below hf hfit hheap happ hpre
  exact ⟨k, _, h1, h2, h3, hL args s _, lw_frame hF⟩
theorem i_vc : Claimed_1_1 ∧ Claimed_1_2 := ⟨lw_limb limb_1_1 (fun args s t => by simp [limb_1_1, Cond.after, Cond.holds, Cond.value]), lw_limb limb_1_2 (fun args s t => Cond.after_iff.mpr (by
  first | (rw [show limb_1_2 = Cond.eq .result (.int 1) from rfl, Cond.eq_ints (x := 1) (y := 1) rfl rfl]; simp; done) | (simp [limb_1_2, Cond.value, Term.eval]; done)))⟩
