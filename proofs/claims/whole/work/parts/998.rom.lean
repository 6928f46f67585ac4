/-! what is given at the start: static rows, texts -/
abbrev gvF : List Cond := flatC (Jvm.Cond.and given_1 narrow_1)
theorem gv_2000_a : Cond.arrayOf (.static "OnOneBreath" "MOST" "[I") .int ∈ gvF := by decide +kernel
theorem gv_2000_l : Cond.eq (.length (.static "OnOneBreath" "MOST" "[I")) (.int (Int32.ofNat 14)) ∈ gvF := by decide +kernel
theorem gv_2000_e : ∀ j : Fin 14, Cond.eq (.elem (.static "OnOneBreath" "MOST" "[I") (.int (Int32.ofNat j.val))) (.int (j32 ((romL 2000).getD j.val 0))) ∈ gvF := by decide +kernel
theorem gs_2000 {args : Array Value} {s : State} {A : Nat → Prop} (hg : (Jvm.Cond.and given_1 narrow_1).before args s = true) (hts : ∀ w ∈ lw_tbl, w.before args s = true) (hA : ∀ a : Nat, a < s.heap.size → ¬ A a) : ∃ t : Nat, va_Z "OnOneBreath" "MOST" "[I" (.ref t) A s s.heap ∧ va_T .int t (romL 2000).length (fun i => .int (j32 ((romL 2000).getD i 0))) A s s.heap := by
  have hs := flat_of_before _ hg
  obtain ⟨t, ht, hT⟩ := va_Tof (tm := (.static "OnOneBreath" "MOST" "[I")) (ty := .int) (N := 14) (f := fun i => .int (j32 ((romL 2000).getD i 0))) (by decide) (hs _ gv_2000_a) (va_eqt (hs _ gv_2000_l)) (fun j hj => va_eqt (hs _ (gv_2000_e ⟨j, hj⟩))) hA
  exact ⟨t, va_Zref (hts _ (List.mem_append_right _ (List.mem_of_getElem? (i := 417) (by decide +kernel)))) (hts _ (List.mem_append_right _ (List.mem_of_getElem? (i := 1) (by decide +kernel)))) ht hA, hT⟩
theorem gv_2001_a : Cond.arrayOf (.static "OnOneBreath" "LEAST" "[I") .int ∈ gvF := by decide +kernel
theorem gv_2001_l : Cond.eq (.length (.static "OnOneBreath" "LEAST" "[I")) (.int (Int32.ofNat 14)) ∈ gvF := by decide +kernel
theorem gv_2001_e : ∀ j : Fin 14, Cond.eq (.elem (.static "OnOneBreath" "LEAST" "[I") (.int (Int32.ofNat j.val))) (.int (j32 ((romL 2001).getD j.val 0))) ∈ gvF := by decide +kernel
theorem gs_2001 {args : Array Value} {s : State} {A : Nat → Prop} (hg : (Jvm.Cond.and given_1 narrow_1).before args s = true) (hts : ∀ w ∈ lw_tbl, w.before args s = true) (hA : ∀ a : Nat, a < s.heap.size → ¬ A a) : ∃ t : Nat, va_Z "OnOneBreath" "LEAST" "[I" (.ref t) A s s.heap ∧ va_T .int t (romL 2001).length (fun i => .int (j32 ((romL 2001).getD i 0))) A s s.heap := by
  have hs := flat_of_before _ hg
  obtain ⟨t, ht, hT⟩ := va_Tof (tm := (.static "OnOneBreath" "LEAST" "[I")) (ty := .int) (N := 14) (f := fun i => .int (j32 ((romL 2001).getD i 0))) (by decide) (hs _ gv_2001_a) (va_eqt (hs _ gv_2001_l)) (fun j hj => va_eqt (hs _ (gv_2001_e ⟨j, hj⟩))) hA
  exact ⟨t, va_Zref (hts _ (List.mem_append_right _ (List.mem_of_getElem? (i := 463) (by decide +kernel)))) (hts _ (List.mem_append_right _ (List.mem_of_getElem? (i := 1) (by decide +kernel)))) ht hA, hT⟩
theorem gv_2002_a : Cond.arrayOf (.static "OnOneBreath$LawReader" "RANKS" "[I") .int ∈ gvF := by decide +kernel
theorem gv_2002_l : Cond.eq (.length (.static "OnOneBreath$LawReader" "RANKS" "[I")) (.int (Int32.ofNat 10)) ∈ gvF := by decide +kernel
theorem gv_2002_e : ∀ j : Fin 10, Cond.eq (.elem (.static "OnOneBreath$LawReader" "RANKS" "[I") (.int (Int32.ofNat j.val))) (.int (j32 ((romL 2002).getD j.val 0))) ∈ gvF := by decide +kernel
theorem gs_2002 {args : Array Value} {s : State} {A : Nat → Prop} (hg : (Jvm.Cond.and given_1 narrow_1).before args s = true) (hts : ∀ w ∈ lw_tbl, w.before args s = true) (hA : ∀ a : Nat, a < s.heap.size → ¬ A a) : ∃ t : Nat, va_Z "OnOneBreath$LawReader" "RANKS" "[I" (.ref t) A s s.heap ∧ va_T .int t (romL 2002).length (fun i => .int (j32 ((romL 2002).getD i 0))) A s s.heap := by
  have hs := flat_of_before _ hg
  obtain ⟨t, ht, hT⟩ := va_Tof (tm := (.static "OnOneBreath$LawReader" "RANKS" "[I")) (ty := .int) (N := 10) (f := fun i => .int (j32 ((romL 2002).getD i 0))) (by decide) (hs _ gv_2002_a) (va_eqt (hs _ gv_2002_l)) (fun j hj => va_eqt (hs _ (gv_2002_e ⟨j, hj⟩))) hA
  exact ⟨t, va_Zref (hts _ (List.mem_append_right _ (List.mem_of_getElem? (i := 647) (by decide +kernel)))) (hts _ (List.mem_append_right _ (List.mem_of_getElem? (i := 11) (by decide +kernel)))) ht hA, hT⟩
theorem gv_2003_a : Cond.arrayOf (.static "OnOneBreath$Bodies" "ABOVE" "[I") .int ∈ gvF := by decide +kernel
theorem gv_2003_l : Cond.eq (.length (.static "OnOneBreath$Bodies" "ABOVE" "[I")) (.int (Int32.ofNat 8)) ∈ gvF := by decide +kernel
theorem gv_2003_e : ∀ j : Fin 8, Cond.eq (.elem (.static "OnOneBreath$Bodies" "ABOVE" "[I") (.int (Int32.ofNat j.val))) (.int (j32 ((romL 2003).getD j.val 0))) ∈ gvF := by decide +kernel
theorem gs_2003 {args : Array Value} {s : State} {A : Nat → Prop} (hg : (Jvm.Cond.and given_1 narrow_1).before args s = true) (hts : ∀ w ∈ lw_tbl, w.before args s = true) (hA : ∀ a : Nat, a < s.heap.size → ¬ A a) : ∃ t : Nat, va_Z "OnOneBreath$Bodies" "ABOVE" "[I" (.ref t) A s s.heap ∧ va_T .int t (romL 2003).length (fun i => .int (j32 ((romL 2003).getD i 0))) A s s.heap := by
  have hs := flat_of_before _ hg
  obtain ⟨t, ht, hT⟩ := va_Tof (tm := (.static "OnOneBreath$Bodies" "ABOVE" "[I")) (ty := .int) (N := 8) (f := fun i => .int (j32 ((romL 2003).getD i 0))) (by decide) (hs _ gv_2003_a) (va_eqt (hs _ gv_2003_l)) (fun j hj => va_eqt (hs _ (gv_2003_e ⟨j, hj⟩))) hA
  exact ⟨t, va_Zref (hts _ (List.mem_append_right _ (List.mem_of_getElem? (i := 1056) (by decide +kernel)))) (hts _ (List.mem_append_right _ (List.mem_of_getElem? (i := 10) (by decide +kernel)))) ht hA, hT⟩
theorem gv_2004_a : Cond.arrayOf (.static "OnOneBreath$Bodies" "OWN" "[I") .int ∈ gvF := by decide +kernel
theorem gv_2004_l : Cond.eq (.length (.static "OnOneBreath$Bodies" "OWN" "[I")) (.int (Int32.ofNat 32)) ∈ gvF := by decide +kernel
theorem gv_2004_e : ∀ j : Fin 32, Cond.eq (.elem (.static "OnOneBreath$Bodies" "OWN" "[I") (.int (Int32.ofNat j.val))) (.int (j32 ((romL 2004).getD j.val 0))) ∈ gvF := by decide +kernel
theorem gs_2004 {args : Array Value} {s : State} {A : Nat → Prop} (hg : (Jvm.Cond.and given_1 narrow_1).before args s = true) (hts : ∀ w ∈ lw_tbl, w.before args s = true) (hA : ∀ a : Nat, a < s.heap.size → ¬ A a) : ∃ t : Nat, va_Z "OnOneBreath$Bodies" "OWN" "[I" (.ref t) A s s.heap ∧ va_T .int t (romL 2004).length (fun i => .int (j32 ((romL 2004).getD i 0))) A s s.heap := by
  have hs := flat_of_before _ hg
  obtain ⟨t, ht, hT⟩ := va_Tof (tm := (.static "OnOneBreath$Bodies" "OWN" "[I")) (ty := .int) (N := 32) (f := fun i => .int (j32 ((romL 2004).getD i 0))) (by decide) (hs _ gv_2004_a) (va_eqt (hs _ gv_2004_l)) (fun j hj => va_eqt (hs _ (gv_2004_e ⟨j, hj⟩))) hA
  exact ⟨t, va_Zref (hts _ (List.mem_append_right _ (List.mem_of_getElem? (i := 1054) (by decide +kernel)))) (hts _ (List.mem_append_right _ (List.mem_of_getElem? (i := 10) (by decide +kernel)))) ht hA, hT⟩
theorem gv_cs : Cond.eq (.static "java/lang/String" "COMPACT_STRINGS" "Z") (.int 1) ∈ gvF := by decide +kernel
theorem gs_cs {args : Array Value} {s : State} {A : Nat → Prop} (hg : (Jvm.Cond.and given_1 narrow_1).before args s = true) (hts : ∀ w ∈ lw_tbl, w.before args s = true) (hA : ∀ a : Nat, a < s.heap.size → ¬ A a) : va_Z "java/lang/String" "COMPACT_STRINGS" "Z" (.int 1) A s s.heap :=
  va_Zof (hts _ (List.mem_append_right _ (List.mem_of_getElem? (i := 568) (by decide +kernel)))) (hts _ (List.mem_append_right _ (List.mem_of_getElem? (i := 15) (by decide +kernel)))) (va_eqi (flat_of_before _ hg _ gv_cs)) hA
def tmS (i : Nat) : Term := if i = 0 then .string "OnOneBreath$LawReader" 79 else .string "OnOneBreath$LawReader" 90
abbrev bySt : List (List Int32) := [(romL 2030).map j32, (romL 2031).map j32]
theorem gt_x : ∀ i : Fin 2, Cond.exactly (tmS i.val) "java/lang/String" ∈ gvF := by decide +kernel
theorem gt_c : ∀ i : Fin 2, Cond.eq (.field (tmS i.val) "java/lang/String" "coder" "B") (.int 0) ∈ gvF := by decide +kernel
theorem gt_v : ∀ i : Fin 2, Cond.arrayOf (.field (tmS i.val) "java/lang/String" "value" "[B") .byte ∈ gvF := by decide +kernel
theorem gt_l : ∀ i : Fin 2, Cond.eq (.length (.field (tmS i.val) "java/lang/String" "value" "[B")) (.int (Int32.ofNat ([6, 10].getD i.val 0))) ∈ gvF := by decide +kernel
theorem gt_e0 : ∀ j : Fin 6, Cond.eq (.elem (.field (tmS 0) "java/lang/String" "value" "[B") (.int (Int32.ofNat j.val))) (.int ((bySt.getD 0 []).getD j.val 0)) ∈ gvF := by decide +kernel
theorem gt_e1 : ∀ j : Fin 10, Cond.eq (.elem (.field (tmS 1) "java/lang/String" "value" "[B") (.int (Int32.ofNat j.val))) (.int ((bySt.getD 1 []).getD j.val 0)) ∈ gvF := by decide +kernel
theorem gt_n : Cond.not (Cond.eq (tmS 0) (tmS 1)) ∈ gvF := by decide +kernel
theorem gs_t {args : Array Value} {s : State} {A : Nat → Prop} (hg : (Jvm.Cond.and given_1 narrow_1).before args s = true) (hA : ∀ a : Nat, a < s.heap.size → ¬ A a) : ∃ adK adV : Nat → Nat, vk_S 2 [6, 10] bySt adK adV A s s.heap ∧ ∀ i : Nat, i < 2 → (tmS i).eval args s none [] s = some (.ref (adK i)) := by
  have hs := flat_of_before _ hg
  refine vk_Sof (tm := tmS) (fun i hi => ?_) (fun i hi => hs _ (gt_x ⟨i, hi⟩)) (fun i hi => hs _ (gt_c ⟨i, hi⟩)) (fun i hi => hs _ (gt_v ⟨i, hi⟩)) (fun i hi => hs _ (gt_l ⟨i, hi⟩)) (fun i hi j hj => ?_) (fun i j hi hj hne => ?_) hA
  · match i, hi with
    | 0, _ => decide
    | 1, _ => decide
    | n + 2, h => exact absurd h (by omega)
  · match i, hi, hj with
    | 0, _, hj => exact hs _ (gt_e0 ⟨j, hj⟩)
    | 1, _, hj => exact hs _ (gt_e1 ⟨j, hj⟩)
    | n + 2, h, _ => exact absurd h (by omega)
  · match i, j, hi, hj, hne with
    | 0, 1, _, _, _ => exact Or.inl (hs _ gt_n)
    | 1, 0, _, _, _ => exact Or.inr (hs _ gt_n)
    | 0, 0, _, _, h => exact absurd rfl h
    | 1, 1, _, _, h => exact absurd rfl h
    | n + 2, _, h, _, _ => exact absurd h (by omega)
    | 0, n + 2, _, h, _ => exact absurd h (by omega)
    | 1, n + 2, _, h, _ => exact absurd h (by omega)
theorem sr_0 : Cond.stringRef "OnOneBreath$LawReader" 79 "drbsnc" ∈ lw_tbl := List.mem_append_right _ (List.mem_of_getElem? (i := 554) (by decide +kernel))
theorem sr_1 : Cond.stringRef "OnOneBreath$LawReader" 90 "|&<=>+-*/%" ∈ lw_tbl := List.mem_append_right _ (List.mem_of_getElem? (i := 645) (by decide +kernel))
theorem sr_n : Cond.methodLinkNest "OnOneBreath" 324 yX0_own "OnOneBreath" ∈ lw_tbl := List.mem_append_right _ (List.mem_of_getElem? (i := 1045) (by decide +kernel))
theorem nw_in : ∀ q ∈ NW, Cond.methodLinkNest q.1 q.2.1 q.2.2.1 q.2.2.2 ∈ lw_tbl := fun q hq => by
  unfold NW at hq
  simp only [List.mem_cons, List.not_mem_nil, or_false] at hq
  rcases hq with rfl | rfl | rfl | rfl | rfl | rfl | rfl | rfl | rfl | rfl | rfl | rfl
  · exact List.mem_append_right _ (List.mem_of_getElem? (i := 39) (by decide +kernel))
  · exact List.mem_append_right _ (List.mem_of_getElem? (i := 332) (by decide +kernel))
  · exact List.mem_append_right _ (List.mem_of_getElem? (i := 177) (by decide +kernel))
  · exact List.mem_append_right _ (List.mem_of_getElem? (i := 33) (by decide +kernel))
  · exact List.mem_append_right _ (List.mem_of_getElem? (i := 102) (by decide +kernel))
  · exact List.mem_append_right _ (List.mem_of_getElem? (i := 210) (by decide +kernel))
  · exact List.mem_append_right _ (List.mem_of_getElem? (i := 231) (by decide +kernel))
  · exact List.mem_append_right _ (List.mem_of_getElem? (i := 252) (by decide +kernel))
  · exact List.mem_append_right _ (List.mem_of_getElem? (i := 275) (by decide +kernel))
  · exact List.mem_append_right _ (List.mem_of_getElem? (i := 302) (by decide +kernel))
  · exact List.mem_append_right _ (List.mem_of_getElem? (i := 327) (by decide +kernel))
  · exact List.mem_append_right _ (List.mem_of_getElem? (i := 352) (by decide +kernel))
theorem ao_0 : Cond.arrayOver (.object "OnOneBreath$Scene") ∈ lw_tbl := List.mem_append_right _ (List.mem_of_getElem? (i := 176) (by decide +kernel))
theorem ao_1 : Cond.arrayOver (.object "OnOneBreath$Shelf") ∈ lw_tbl := List.mem_append_right _ (List.mem_of_getElem? (i := 324) (by decide +kernel))
/-- addresses: what is only read by st, all else by f -/
def mkA (st : Nat → Nat) (f : Nat → Nat → Nat) : ZAd := fun k j => if 2000 ≤ k then st k else f k j
def stAd (t0 t1 t2 t3 t4 b : Nat) (adK adV : Nat → Nat) (k : Nat) : Nat := if k = 2000 then t0 else if k = 2001 then t1 else if k = 2002 then t2 else if k = 2003 then t3 else if k = 2004 then t4 else if k = 2010 then b else if k < 2030 then adK (k - 2020) else adV (k - 2030)
theorem rom_start {args : Array Value} {s : State} {A : Nat → Prop} {b L : Nat} {xs : Nat → Int32} (hg : (Jvm.Cond.and given_1 narrow_1).before args s = true) (hts : ∀ w ∈ lw_tbl, w.before args s = true) (hA : ∀ a : Nat, a < s.heap.size → ¬ A a) (hX : va_X b L xs s s.heap) (hb : ¬ A b) : ∃ st : Nat → Nat, st 2010 = b ∧ ∀ f : Nat → Nat → Nat, Rom (mkA st f) (some ((List.range L).map fun i => (xs i).toInt)) A s s.heap := by
  obtain ⟨t0, z0, T0⟩ := gs_2000 hg hts hA
  obtain ⟨t1, z1, T1⟩ := gs_2001 hg hts hA
  obtain ⟨t2, z2, T2⟩ := gs_2002 hg hts hA
  obtain ⟨t3, z3, T3⟩ := gs_2003 hg hts hA
  obtain ⟨t4, z4, T4⟩ := gs_2004 hg hts hA
  obtain ⟨adK, adV, hS, hK⟩ := gs_t hg hA
  refine ⟨stAd t0 t1 t2 t3 t4 b adK adV, rfl, fun f => ⟨fun k hk => ?_, ⟨z0, z1, z2, z3, z4, gs_cs hg hts hA⟩, ⟨fun i hi => ?_, fun i j hi hj e => ?_⟩, ⟨vk_R.of (hts _ sr_0) (hK 0 (by decide)), vk_R.of (hts _ sr_1) (hK 1 (by decide)), va_Nw.of rfl (hts _ sr_n)⟩, fun Ls hL => ?_⟩⟩
  · simp only [romK, List.mem_cons, List.not_mem_nil, or_false] at hk
    rcases hk with rfl | rfl | rfl | rfl | rfl
    · exact T0
    · exact T1
    · exact T2
    · exact T3
    · exact T4
  · have h := hS.1 i hi
    match i, hi, h with
    | 0, _, h => exact h
    | 1, _, h => exact h
    | n + 2, hh, _ => exact absurd hh (by omega)
  · match i, j, hi, hj, e with
    | 0, 1, h, h2, e => exact hS.2 0 1 h h2 e
    | 1, 0, h, h2, e => exact hS.2 1 0 h h2 e
    | 0, 0, _, _, _ => rfl
    | 1, 1, _, _, _ => rfl
    | n + 2, _, h, _, _ => exact absurd h (by omega)
    | 0, n + 2, _, h, _ => exact absurd h (by omega)
    | 1, n + 2, _, h, _ => exact absurd h (by omega)
  · cases hL
    obtain ⟨scr, h1, h2, h3, h4, h5⟩ := hX
    have hl : ((List.range L).map fun i => (xs i).toInt).length = L := by simp
    rw [hl]
    refine ⟨scr, h1, h2, h3, by omega, by rw [h4], fun j hj => ?_, hb⟩
    rw [h5 j hj]
    have e : ((List.range L).map fun i => (xs i).toInt).getD j 0 = (xs j).toInt := by
      rw [List.getD_eq_getElem?_getD, List.getElem?_map, List.getElem?_range hj]
      rfl
    show some (Value.int (xs j)) = some (Value.int (j32 (((List.range L).map fun i => (xs i).toInt).getD j 0)))
    rw [e, i32_t]
