/-! what is only read: static rows, two texts, the law's script -/
def romK : List Nat := [2000, 2001, 2002, 2003, 2004]
def Rom (ad : ZAd) (sx : Option (List Int)) (A : Nat → Prop) (U : State) (H : Heap) : Prop :=
  (∀ k ∈ romK, va_T .int (ad k 0) (romL k).length (fun i => .int (j32 ((romL k).getD i 0))) A U H) ∧
  (va_Z "OnOneBreath" "MOST" "[I" (.ref (ad 2000 0)) A U H ∧ va_Z "OnOneBreath" "LEAST" "[I" (.ref (ad 2001 0)) A U H ∧ va_Z "OnOneBreath$LawReader" "RANKS" "[I" (.ref (ad 2002 0)) A U H ∧ va_Z "OnOneBreath$Bodies" "ABOVE" "[I" (.ref (ad 2003 0)) A U H ∧ va_Z "OnOneBreath$Bodies" "OWN" "[I" (.ref (ad 2004 0)) A U H ∧ va_Z "java/lang/String" "COMPACT_STRINGS" "Z" (.int 1) A U H) ∧
  vk_S 2 [6, 10] [(romL 2030).map j32, (romL 2031).map j32] (fun i => ad (2020 + i) 0) (fun i => ad (2030 + i) 0) A U H ∧
  (vk_R "OnOneBreath$LawReader" 79 "drbsnc" (ad 2020 0) U ∧ vk_R "OnOneBreath$LawReader" 90 "|&<=>+-*/%" (ad 2021 0) U ∧ va_Nw (.methodLinkNest "OnOneBreath" 324 yX0_own "OnOneBreath") U) ∧
  ∀ L, sx = some L → va_T .int (ad 2010 0) L.length (fun i => .int (j32 (L.getD i 0))) A U H
theorem Rom_warm {ad : ZAd} {sx : Option (List Int)} {A : Nat → Prop} {u U : State} {H : Heap} (hW : u.WarmedH U.vm) (h : Rom ad sx A u H) : Rom ad sx A U H := by
  obtain ⟨h1, ⟨a1, a2, a3, a4, a5, a6⟩, h3, ⟨b1, b2, b3⟩, h5⟩ := h
  have hv := hW.alike
  exact ⟨fun k hk => (h1 k hk).moved hv, ⟨a1.moved hv, a2.moved hv, a3.moved hv, a4.moved hv, a5.moved hv, a6.moved hv⟩, h3.moved hv, ⟨b1.warm hW, b2.warm hW, b3.warmM hW⟩, fun L e => (h5 L e).moved hv⟩
theorem Rom_same {ad : ZAd} {sx : Option (List Int)} {A : Nat → Prop} {u U : State} {H : Heap} (hv : u.vm = U.vm) (h : Rom ad sx A u H) : Rom ad sx A U H := by
  obtain ⟨h1, ⟨a1, a2, a3, a4, a5, a6⟩, h3, ⟨b1, b2, b3⟩, h5⟩ := h
  have hv2 : u.vm.Alike U.vm := by rw [hv]; exact Vm.Alike.refl _
  exact ⟨fun k hk => (h1 k hk).moved hv2, ⟨a1.moved hv2, a2.moved hv2, a3.moved hv2, a4.moved hv2, a5.moved hv2, a6.moved hv2⟩, h3.moved hv2, ⟨b1.same hv.symm, b2.same hv.symm, va_Nw.same rfl hv b3⟩, fun L e => (h5 L e).moved hv2⟩
theorem Rom_kept {ad : ZAd} {sx : Option (List Int)} {A : Nat → Prop} {U : State} {H H1 : Heap} (h : Rom ad sx A U H) (hq : ∀ a : Nat, a < H.size → ¬ A a → H1[a]? = H[a]?) : Rom ad sx A U H1 := by
  obtain ⟨h1, ⟨a1, a2, a3, a4, a5, a6⟩, h3, b, h5⟩ := h
  exact ⟨fun k hk => (h1 k hk).kept hq, ⟨a1.kept hq, a2.kept hq, a3.kept hq, a4.kept hq, a5.kept hq, a6.kept hq⟩, h3.kept hq, b, fun L e => (h5 L e).kept hq⟩
theorem Rom_narrow {ad : ZAd} {sx : Option (List Int)} {A B : Nat → Prop} {U : State} {H : Heap} (h : Rom ad sx A U H) (hAB : ∀ q, B q → A q) : Rom ad none B U H := by
  obtain ⟨h1, ⟨a1, a2, a3, a4, a5, a6⟩, h3, b, h5⟩ := h
  exact ⟨fun k hk => (h1 k hk).narrow hAB, ⟨a1.narrow hAB, a2.narrow hAB, a3.narrow hAB, a4.narrow hAB, a5.narrow hAB, a6.narrow hAB⟩, h3.narrow hAB, b, fun L e => by cases e⟩
theorem wsD {A B : Nat → Prop} {cA : ZCA} {ad : ZAd} {mem mem2 : AMem} (hAB : ∀ q : Nat × Nat, q ∈ LV → A (ad q.1 q.2) → B (ad q.1 q.2)) (h : va_D A (wsW cA ad mem)) : va_D B (wsW cA ad mem2) := by
  have key : ∀ (i : Nat) (p : Nat × va_E), (wsW cA ad mem2)[i]? = some p → ∃ q : Nat × Nat, q ∈ LV ∧ p.1 = ad q.1 q.2 ∧ (wsW cA ad mem)[i]? = some (p.1, ce cA ad mem q) := by
    intro i p hp
    unfold wsW at hp ⊢
    rw [List.getElem?_map] at hp ⊢
    cases hi : LV[i]? with
    | none => rw [hi] at hp; cases hp
    | some q =>
      rw [hi] at hp
      cases hp
      exact ⟨q, List.mem_of_getElem? hi, rfl, rfl⟩
  refine ⟨fun i j p q hi hj e => ?_, fun k q hk => ?_⟩
  · obtain ⟨p1, -, e1, g1⟩ := key i p hi
    obtain ⟨q1, -, e2, g2⟩ := key j q hj
    exact h.1 i j _ _ g1 g2 e
  · obtain ⟨q1, m1, e1, g1⟩ := key k q hk
    have := h.2 k _ g1
    rw [e1] at this ⊢
    exact hAB q1 m1 this
theorem wsA {cA : ZCA} {ad : ZAd} {mem : AMem} {sz q : Nat} : va_A (wsW cA ad mem) sz q ↔ (∃ c, c ∈ LV ∧ q = ad c.1 c.2) ∨ sz ≤ q := by
  constructor
  · rintro (⟨k, e, h⟩ | h)
    · left
      unfold wsW at h
      rw [List.getElem?_map] at h
      cases hi : LV[k]? with
      | none => rw [hi] at h; cases h
      | some c => rw [hi] at h; cases h; exact ⟨c, List.mem_of_getElem? hi, rfl⟩
    · exact Or.inr h
  · rintro (⟨c, hc, rfl⟩ | h)
    · obtain ⟨q0, -, h0⟩ := ws_at (cA := cA) (ad := ad) hc
      exact Or.inl ⟨q0, _, h0 mem⟩
    · exact Or.inr h
def retI (r : Option AV) : Instr := match r with
  | none => .return_
  | some (.inl _) => .ireturn
  | some (.inr (.inl _)) => .lreturn
  | some (.inr (.inr _)) => .areturn
/-- all that holds of a frame that runs code cc of class own, d calls deep at most -/
def Cx (cc : ByteArray) (mL : Nat) (own : String) (d : Nat) (sx : Option (List Int)) (Q : Option AV → AMem → Prop) (p : Program) (l : Launch) (e : Env) (R : Room) (s : State) (m : MethodId) (args : Array Value) (below : List Frame) (meth : Method) (c : Code) (D : va_G) (cA : ZCA) (ad : ZAd) (A : Nat → Prop) (Qs : State → Prop) (cells slots : Nat) : Prop :=
  CallFix p m c cc mL s args TB own ∧ va_K D vwCl (tysW cA) s ∧ (∀ mem, va_D A (wsW cA ad mem)) ∧ (∀ q, s.heap.size ≤ q → A q) ∧ (d ≤ R.frames ∧ 60 * d ≤ R.locals ∧ cells ≤ R.cells ∧ slots ≤ R.slots) ∧ Rom ad sx A s s.heap ∧
  (∀ (pc : Nat) (la : Array Slot) (r : Option AV) (mem : AMem) (H : Heap) (locs : List Loc), decode cc pc = .ok (retI r, 1) → Q r mem → (∀ v, r = some v → wfv v) → wfm mem → va_P D vwCl (wsW cA ad mem) H → va_S A s.heap H locs → W p l e R s m args below meth c H locs cells slots Qs (F0 m pc la (r.toList.map (cv ad))))
/-- from here on the machine comes to an end with Q -/
def Y (cc : ByteArray) (mL : Nat) (own : String) (d : Nat) (sx : Option (List Int)) (pc : Nat) (ls : ZLs) (st : List AV) (mem : AMem) (Q : Option AV → AMem → Prop) : Prop :=
  ∀ (p : Program) (l : Launch) (e : Env) (R : Room) (s : State) (m : MethodId) (args : Array Value) (below : List Frame) (meth : Method) (c : Code) (D : va_G) (cA : ZCA) (ad : ZAd) (A : Nat → Prop) (Qs : State → Prop) (cells slots : Nat),
    Cx cc mL own d sx Q p l e R s m args below meth c D cA ad A Qs cells slots →
    ∀ (H : Heap) (locs : List Loc) (la : Array Slot), va_P D vwCl (wsW cA ad mem) H → va_S A s.heap H locs → Lh ad la mL ls → wfl ls → wfs st → wfm mem →
      W p l e R s m args below meth c H locs cells slots Qs (F0 m pc la (st.map (cv ad)))
def rmD (d : Nat) : Room := { frames := d, cells := 0, slots := 0, locals := 60 * d }
def Pw (D : va_G) (cA : ZCA) (ad : ZAd) (mem : AMem) (sz : Nat) (U : State) : Prop :=
  U.heap.size = sz ∧ va_P D vwCl (wsW cA ad mem) U.heap ∧ va_K D vwCl (tysW cA) U ∧ va_D (fun _ => True) (wsW cA ad mem) ∧ Rom ad none (va_A (wsW cA ad mem) sz) U U.heap
def Qw (D : va_G) (cA : ZCA) (ad : ZAd) (A : Nat → Prop) (Q : Option AV → AMem → Prop) : Array Value → State → Outcome → State → Prop := fun _ st o t =>
  (∃ (r : Option AV) (mem : AMem), o = .returned (r.map (cv ad)) ∧ Q r mem ∧ (∀ v, r = some v → wfv v) ∧ wfm mem ∧ va_P D vwCl (wsW cA ad mem) t.heap) ∧ va_F A st t
/-- method y, called with av over mem, comes to an end with Q -/
def MtX (y : MethodName) (cc : ByteArray) (mL : Nat) (ret : Option FieldType) (d : Nat) (av : List AV) (mem : AMem) (Q : Option AV → AMem → Prop) : Prop :=
  (∀ v ∈ av, wfv v) → wfm mem → ∀ (l : Launch) (D : va_G) (cA : ZCA) (ad : ZAd) (sz : Nat),
    Met l y (Cond.code y cc mL ret :: TB) (rmD d) (va_Pc (av.map (cv ad)) (Pw D cA ad mem sz)) (Qw D cA ad (va_A (wsW cA ad mem) sz) Q) 0 0 (va_A (wsW cA ad mem) sz)
def rk (ret : Option FieldType) (r : Option AV) : Prop := match ret, r with
  | none, none => True
  | some .int, some (.inl _) => True
  | some .boolean, some (.inl x) => x = 0 ∨ x = 1
  | some .byte, some (.inl x) => x = 0 ∨ x = 1
  | some .long, some (.inr (.inl _)) => True
  | some (.object _), some (.inr (.inr _)) => True
  | _, _ => False
theorem z_len (ad : ZAd) (av : List AV) : (lg_sl (av.map (cv ad))).length = (av.flatMap z_sl).length := by
  induction av with
  | nil => rfl
  | cons a av ih =>
    simp only [lg_sl, List.map_cons, List.flatMap_cons, List.length_append] at ih ⊢
    rw [ih, cv_cat]
    cases ha : isL a <;> simp [z_sl, ha]
set_option maxRecDepth 100000 in
set_option maxHeartbeats 1000000 in
theorem Y_met {y : MethodName} {cc : ByteArray} {mL : Nat} {ret : Option FieldType} {d : Nat} {av : List AV} {mem : AMem} {Q : Option AV → AMem → Prop} (hy : plainName y.cls = true) (n : Nat) (hn : (av.flatMap z_sl).length + n = mL)
    (h : Y cc mL y.cls d none 0 (z_ent av n) [] mem (fun r mem2 => rk ret r ∧ Q r mem2)) : MtX y cc mL ret d av mem Q := by
  intro hav hm l D cA ad sz
  refine Met.ofW (cc := cc) (maxL := mL) (ret := ret) hy rfl ?_
  intro p e s m args below meth c s₁ B hml hv
  obtain ⟨rfl, hsz, hP, hK, hD0, hR⟩ := hv
  have hts := atoms_spec (ws := Cond.code y cc mL ret :: TB) B.pre
  have hown : s.vm.findClass y.cls = some m.cls := findClass_of_methodNamed B.named
  have hlocks := B.notSynchronized
  subst hsz
  have hlen := z_len ad av
  have hl := lv_entry (av.map (cv ad)) (n := mL) (by rw [hlen]; omega)
  rw [lg_entry_eq]
  generalize ((lg_sl (av.map (cv ad)) ++ List.replicate (mL - (lg_sl (av.map (cv ad))).length) Slot.unset).toArray) = la at hl ⊢
  have hLh : Lh ad la mL (z_ent av n) := Lh_of hl fun i v hi => by
    have := ent_args (ad := ad) av n 0 i v hi
    rwa [Nat.zero_add] at this
  have hwl : wfl (z_ent av n) := by
    intro v hv
    rcases List.mem_append.mp hv with g | g
    · obtain ⟨a, ha, g2⟩ := List.mem_flatMap.mp g
      unfold z_sl at g2
      split at g2
      · rcases List.mem_cons.mp g2 with g3 | g3
        · cases g3; exact hav _ ha
        · rcases List.mem_cons.mp g3 with g4 | g4 <;> cases g4
      · rcases List.mem_cons.mp g2 with g3 | g3
        · cases g3; exact hav _ ha
        · cases g3
    · have := (List.mem_replicate.mp g).2
      cases this
  refine h p l e (rmD d) s m _ below meth c D cA ad (va_A (wsW cA ad mem) s.heap.size) _ 0 0 ⟨⟨B.exec, B.bytes, hml, hown, fun w hw => hts w (List.mem_cons_of_mem _ hw)⟩, hK, fun mem2 => wsD (fun q hq _ => wsA.mpr (Or.inl ⟨q, hq, rfl⟩)) hD0, fun q hq => Or.inr hq, ⟨Nat.le_refl _, Nat.le_refl _, Nat.zero_le _, Nat.zero_le _⟩, hR, ?_⟩ s.heap [] la hP va_S.rf hLh hwl (fun _ h => by cases h) hm
  intro pc la2 r mem2 H locs hd hQ hw hm2 hP2 hS2
  have hr := B.returns
  have hq : ∀ t : State, t.heap = H → s.WarmedH t.vm → Qw D cA ad (va_A (wsW cA ad mem) s.heap.size) Q (av.map (cv ad)).toArray s (.returned (r.map (cv ad))) t := fun t ht _ => ⟨⟨r, mem2, rfl, hQ.2, hw, hm2, by rw [ht]; exact hP2⟩, hS2.F ht⟩
  have hrk := hQ.1
  clear h
  rcases r with _ | (x | x | x)
  · cases ret with
    | none => exact W.vret B.exec B.bytes hr hq hS2.2.2 hd
    | some ty => exact absurd hrk (by cases ty <;> exact fun z => z)
  · cases ret with
    | none => exact absurd hrk (fun z => z)
    | some ty =>
      cases ty with
      | int => exact W.iret B.exec B.bytes hr hq hS2.2.2 hd
      | boolean => exact W.zret B.exec B.bytes hr (by rcases (hrk : x = 0 ∨ x = 1) with rfl | rfl <;> decide) hq hS2.2.2 hd
      | byte => exact W.zret B.exec B.bytes hr (by rcases (hrk : x = 0 ∨ x = 1) with rfl | rfl <;> decide) hq hS2.2.2 hd
      | _ => exact absurd hrk (fun z => z)
  · cases ret with
    | none => exact absurd hrk (fun z => z)
    | some ty =>
      cases ty with
      | long => exact W.lret B.exec B.bytes hr hq hS2.2.2 hd
      | _ => exact absurd hrk (fun z => z)
  · cases ret with
    | none => exact absurd hrk (fun z => z)
    | some ty =>
      cases ty with
      | object o => exact W.aret B.exec B.bytes hr (Or.inl ⟨_, rfl⟩) (Or.inr ⟨_, rfl⟩) hq hS2.2.2 hd
      | _ => exact absurd hrk (fun z => z)
