set_option maxRecDepth 10000 in
theorem sg_X0_isFull_0 {d : Nat} {sx : Option (List Int)}  (mem : AMem) (Q : Option AV → AMem → Prop) (h : ((mem 0 0 2) < (50 : Int) → (Q (some (vi 0)) mem)) ∧ (¬ (mem 0 0 2) < (50 : Int) → (Q (some (vi 1)) mem))) : Y cX0_isFull 1 RX0 (d + 1) sx 0 [some (vr 0 0)] [] mem Q := by
  refine a_aload_n dX0_isFull_0 rfl rfl ?_
  refine gf_X0_16 (x := mem 0 0 2) rfl dX0_isFull_1 ?_
  refine a_bipush (k := 50) dX0_isFull_4 (by decide) (n_lit (by decide)) ?_
  refine a_icmp_lt (tgt := 13) dX0_isFull_6 (by decide) ⟨fun c1 => ?_, fun c1 => ?_⟩
  · refine a_iconst (k := 0) dX0_isFull_13 (n_lit (by decide)) ?_
    exact a_iret dX0_isFull_14 (h.1 c1)
  · refine a_iconst (k := 1) dX0_isFull_9 (n_lit (by decide)) ?_
    refine a_goto (tgt := 14) dX0_isFull_10 (by decide) ?_
    exact a_iret dX0_isFull_14 (h.2 c1)
set_option maxRecDepth 10000 in
theorem sg_X0_add_0 {d : Nat} {sx : Option (List Int)} (a1 : Int) (mem : AMem) (Q : Option AV → AMem → Prop) (h : (0 ≤ (mem 0 0 2) ∧ (mem 0 0 2) < 50) ∧ (Q (some (vi (w32 ((w32 ((mem 0 0 2) + 1)) - 1)))) (upM (upM mem 100 0 (mem 0 0 2) a1) 0 0 2 (w32 ((mem 0 0 2) + 1))))) : Y cX0_add 2 RX0 (d + 1) sx 0 [some (vr 0 0), some (vi a1)] [] mem Q := by
  refine a_aload_n dX0_add_0 rfl rfl ?_
  refine gf_X0_9 dX0_add_1 ?_
  refine a_aload_n dX0_add_4 rfl rfl ?_
  refine gf_X0_16 (x := mem 0 0 2) rfl dX0_add_5 ?_
  refine a_iload_n dX0_add_8 rfl rfl ?_
  refine a_iast rfl rfl (by decide) rfl dX0_add_9 ⟨h.1, ?_⟩
  refine a_aload_n dX0_add_10 rfl rfl ?_
  refine a_dup dX0_add_11 rfl ?_
  refine gf_X0_16 (x := mem 0 0 2) rfl dX0_add_12 ?_
  refine a_iconst (k := 1) dX0_add_15 (n_lit (by decide)) ?_
  refine a_iadd dX0_add_16 ?_
  refine pf_X0_16 dX0_add_17 ?_
  refine a_aload_n dX0_add_20 rfl rfl ?_
  refine gf_X0_16 (x := w32 ((mem 0 0 2) + 1)) rfl dX0_add_21 ?_
  refine a_iconst (k := 1) dX0_add_24 (n_lit (by decide)) ?_
  refine a_isub dX0_add_25 ?_
  exact a_iret dX0_add_26 h.2
set_option maxRecDepth 10000 in
theorem sg_X0_knows_0 {d : Nat} {sx : Option (List Int)} (a1 : Int) (mem : AMem) (Q : Option AV → AMem → Prop) (h : (a1 < (0 : Int) → (Q (some (vi 0)) mem)) ∧ (¬ a1 < (0 : Int) → (((mem 0 0 2) ≤ a1 → (Q (some (vi 0)) mem)) ∧ (¬ (mem 0 0 2) ≤ a1 → (Q (some (vi 1)) mem))))) : Y cX0_knows 2 RX0 (d + 1) sx 0 [some (vr 0 0), some (vi a1)] [] mem Q := by
  refine a_iload_n dX0_knows_0 rfl rfl ?_
  refine a_if_lt (tgt := 16) dX0_knows_1 (by decide) ⟨fun c1 => ?_, fun c1 => ?_⟩
  · refine a_iconst (k := 0) dX0_knows_16 (n_lit (by decide)) ?_
    exact a_iret dX0_knows_17 (h.1 c1)
  · refine a_iload_n dX0_knows_4 rfl rfl ?_
    refine a_aload_n dX0_knows_5 rfl rfl ?_
    refine gf_X0_16 (x := mem 0 0 2) rfl dX0_knows_6 ?_
    refine a_icmp_ge (tgt := 16) dX0_knows_9 (by decide) ⟨fun c2 => ?_, fun c2 => ?_⟩
    · refine a_iconst (k := 0) dX0_knows_16 (n_lit (by decide)) ?_
      exact a_iret dX0_knows_17 ((h.2 c1).1 c2)
    · refine a_iconst (k := 1) dX0_knows_12 (n_lit (by decide)) ?_
      refine a_goto (tgt := 17) dX0_knows_13 (by decide) ?_
      exact a_iret dX0_knows_17 ((h.2 c1).2 c2)
set_option maxRecDepth 10000 in
theorem sg_X0_traced_0 {d : Nat} {sx : Option (List Int)}  (mem : AMem) (Q : Option AV → AMem → Prop) (h : Q (some (vi (min (mem 0 0 3) 24))) mem) : Y cX0_traced 1 RX0 (d + 1) sx 0 [some (vr 0 0)] [] mem Q := by
  refine a_aload_n dX0_traced_0 rfl rfl ?_
  refine gf_X0_20 (x := mem 0 0 3) rfl dX0_traced_1 ?_
  refine a_bipush (k := 24) dX0_traced_4 (by decide) (n_lit (by decide)) ?_
  refine a_min ml_X0_23 ms_Math_min mn_Math mc_Math_min (by omega) (Nat.le_of_ble_eq_true rfl) dX0_traced_6 ?_
  exact a_iret dX0_traced_9 h
set_option maxRecDepth 10000 in
theorem sg_X0_isUnder_0 {d : Nat} {sx : Option (List Int)} (a0 : Int) (a1 : Int) (mem : AMem) (Q : Option AV → AMem → Prop) (h : Y cX0_isUnder 4 RX0 (d + 1) sx 4 [some (vi a0), some (vi a1), some (vi a0), some (vi 0)] [] mem Q) : Y cX0_isUnder 4 RX0 (d + 1) sx 0 [some (vi a0), some (vi a1), none, none] [] mem Q := by
  refine a_iload_n dX0_isUnder_0 rfl rfl ?_
  refine a_istore_n dX0_isUnder_1 rfl (by decide) rfl ?_
  refine a_iconst (k := 0) dX0_isUnder_2 (n_lit (by decide)) ?_
  refine a_istore_n dX0_isUnder_3 rfl (by decide) rfl ?_
  exact h
set_option maxRecDepth 10000 in
theorem sg_X0_isUnder_4 {d : Nat} {sx : Option (List Int)} (a0 : Int) (a1 : Int) (a2 : Int) (a3 : Int) (mem : AMem) (Q : Option AV → AMem → Prop) (h : ((8 : Int) ≤ a3 → (Q (some (vi 0)) mem)) ∧ (¬ (8 : Int) ≤ a3 → ((a2 < (0 : Int) → (Q (some (vi 0)) mem)) ∧ (¬ a2 < (0 : Int) → ((a2 ≠ a1 → ((0 ≤ a2 ∧ a2 < ((romL 2003).length : Int)) ∧ (Y cX0_isUnder 4 RX0 (d + 1) sx 4 [some (vi a0), some (vi a1), some (vi (List.getD (romL 2003) (Int.toNat a2) 0)), some (vi (w32 (a3 + 1)))] [] mem Q))) ∧ (a2 = a1 → (Q (some (vi 1)) mem))))))) : Y cX0_isUnder 4 RX0 (d + 1) sx 4 [some (vi a0), some (vi a1), some (vi a2), some (vi a3)] [] mem Q := by
  refine a_iload_n dX0_isUnder_4 rfl rfl ?_
  refine a_bipush (k := 8) dX0_isUnder_5 (by decide) (n_lit (by decide)) ?_
  refine a_icmp_ge (tgt := 33) dX0_isUnder_7 (by decide) ⟨fun c1 => ?_, fun c1 => ?_⟩
  · refine a_iconst (k := 0) dX0_isUnder_33 (n_lit (by decide)) ?_
    exact a_iret dX0_isUnder_34 (h.1 c1)
  · refine a_iload_n dX0_isUnder_10 rfl rfl ?_
    refine a_if_lt (tgt := 33) dX0_isUnder_11 (by decide) ⟨fun c2 => ?_, fun c2 => ?_⟩
    · refine a_iconst (k := 0) dX0_isUnder_33 (n_lit (by decide)) ?_
      exact a_iret dX0_isUnder_34 ((h.2 c1).1 c2)
    · refine a_iload_n dX0_isUnder_14 rfl rfl ?_
      refine a_iload_n dX0_isUnder_15 rfl rfl ?_
      refine a_icmp_ne (tgt := 21) dX0_isUnder_16 (by decide) ⟨fun c3 => ?_, fun c3 => ?_⟩
      · refine a_gets (k := 2003) (fun hR => hR.2.1.2.2.2.1) fl_X0_29 (by decide) dX0_isUnder_21 ?_
        refine a_iload_n dX0_isUnder_24 rfl rfl ?_
        refine a_rom (by decide) dX0_isUnder_25 ⟨(((h.2 c1).2 c2).1 c3).1, ?_⟩
        refine a_istore_n dX0_isUnder_26 rfl (by decide) rfl ?_
        refine a_iinc dX0_isUnder_27 rfl (by decide) rfl ?_
        refine a_goto (tgt := 4) dX0_isUnder_30 (by decide) ?_
        exact (((h.2 c1).2 c2).1 c3).2
      · refine a_iconst (k := 1) dX0_isUnder_19 (n_lit (by decide)) ?_
        exact a_iret dX0_isUnder_20 (((h.2 c1).2 c2).2 c3)
set_option maxRecDepth 10000 in
theorem sg_X0_own_0 {d : Nat} {sx : Option (List Int)} (a1 : Int) (a2 : Int) (a3 : Int) (a4 : Int) (mem : AMem) (Q : Option AV → AMem → Prop) (h : (0 ≤ a1 ∧ a1 < 50) ∧ (MtX yX0_run cX0_run 8 (some .int) d [vr 0 0, vi a1, vi (mem 100 0 a1), vi a2, vi a3, vi (w32 (a4 + 1))] mem (fun r m1 => ∃ x3 : Int, r = some (vi x3) ∧ (Q (some (vi x3)) m1)))) : Y cX0_own 5 RX0 (d + 1) sx 0 [some (vr 0 0), some (vi a1), some (vi a2), some (vi a3), some (vi a4)] [] mem Q := by
  refine a_aload_n dX0_own_0 rfl rfl ?_
  refine a_iload_n dX0_own_1 rfl rfl ?_
  refine a_aload_n dX0_own_2 rfl rfl ?_
  refine gf_X0_9 dX0_own_3 ?_
  refine a_iload_n dX0_own_6 rfl rfl ?_
  refine a_iald rfl rfl (by decide) rfl dX0_own_7 ⟨h.1, ?_⟩
  refine a_iload_n dX0_own_8 rfl rfl ?_
  refine a_iload_n dX0_own_9 rfl rfl ?_
  refine a_iload dX0_own_10 rfl ?_
  refine a_iconst (k := 1) dX0_own_12 (n_lit (by decide)) ?_
  refine a_iadd dX0_own_13 ?_
  refine iv_X0_32 dX0_own_14 (Nat.le_of_ble_eq_true rfl) (MtX_mono h.2 (fun r m1 hq => ?_))
  obtain ⟨x3, rfl, h2⟩ := hq
  refine ⟨x3, rfl, ?_⟩
  exact a_iret dX0_own_17 h2
set_option maxRecDepth 10000 in
theorem sg_X0_run_0 {d : Nat} {sx : Option (List Int)} (a1 : Int) (a2 : Int) (a3 : Int) (a4 : Int) (a5 : Int) (mem : AMem) (Q : Option AV → AMem → Prop) (h : Y cX0_run 8 RX0 (d + 1) sx 6 [some (vr 0 0), some (vi a1), some (vi a2), some (vi a3), some (vi a4), some (vi a5), some (vi a2), some (vi 0)] [] mem Q) : Y cX0_run 8 RX0 (d + 1) sx 0 [some (vr 0 0), some (vi a1), some (vi a2), some (vi a3), some (vi a4), some (vi a5), none, none] [] mem Q := by
  refine a_iload_n dX0_run_0 rfl rfl ?_
  refine a_istore dX0_run_1 (by decide) rfl ?_
  refine a_iconst (k := 0) dX0_run_3 (n_lit (by decide)) ?_
  refine a_istore dX0_run_4 (by decide) rfl ?_
  exact h
set_option maxRecDepth 10000 in
theorem sg_X0_run_6 {d : Nat} {sx : Option (List Int)} (a1 : Int) (a2 : Int) (a3 : Int) (a4 : Int) (a5 : Int) (a6 : Int) (a7 : Int) (mem : AMem) (Q : Option AV → AMem → Prop) (h : ((8 : Int) ≤ a7 → (Y cX0_run 8 RX0 (d + 1) sx 45 [some (vr 0 0), some (vi a1), some (vi a2), some (vi a3), some (vi a4), some (vi a5), some (vi a6), some (vi a7)] [] mem Q)) ∧ (¬ (8 : Int) ≤ a7 → ((a6 < (0 : Int) → (Y cX0_run 8 RX0 (d + 1) sx 45 [some (vr 0 0), some (vi a1), some (vi a2), some (vi a3), some (vi a4), some (vi a5), some (vi a6), some (vi a7)] [] mem Q)) ∧ (¬ a6 < (0 : Int) → ((0 ≤ (w32 ((w32 (a6 * 4)) + a3)) ∧ (w32 ((w32 (a6 * 4)) + a3)) < ((romL 2004).length : Int)) ∧ (((List.getD (romL 2004) (Int.toNat (w32 ((w32 (a6 * 4)) + a3))) 0) ≠ (0 : Int) → (Y cX0_run 8 RX0 (d + 1) sx 45 [some (vr 0 0), some (vi a1), some (vi a2), some (vi a3), some (vi a4), some (vi a5), some (vi a6), some (vi a7)] [] mem Q)) ∧ ((List.getD (romL 2004) (Int.toNat (w32 ((w32 (a6 * 4)) + a3))) 0) = (0 : Int) → ((0 ≤ a6 ∧ a6 < ((romL 2003).length : Int)) ∧ (Y cX0_run 8 RX0 (d + 1) sx 6 [some (vr 0 0), some (vi a1), some (vi a2), some (vi a3), some (vi a4), some (vi a5), some (vi (List.getD (romL 2003) (Int.toNat a6) 0)), some (vi (w32 (a7 + 1)))] [] mem Q))))))))) : Y cX0_run 8 RX0 (d + 1) sx 6 [some (vr 0 0), some (vi a1), some (vi a2), some (vi a3), some (vi a4), some (vi a5), some (vi a6), some (vi a7)] [] mem Q := by
  refine a_iload dX0_run_6 rfl ?_
  refine a_bipush (k := 8) dX0_run_8 (by decide) (n_lit (by decide)) ?_
  refine a_icmp_ge (tgt := 45) dX0_run_10 (by decide) ⟨fun c1 => ?_, fun c1 => ?_⟩
  · exact (h.1 c1)
  · refine a_iload dX0_run_13 rfl ?_
    refine a_if_lt (tgt := 45) dX0_run_15 (by decide) ⟨fun c2 => ?_, fun c2 => ?_⟩
    · exact ((h.2 c1).1 c2)
    · refine a_gets (k := 2004) (fun hR => hR.2.1.2.2.2.2.1) fl_X0_36 (by decide) dX0_run_18 ?_
      refine a_iload dX0_run_21 rfl ?_
      refine a_iconst (k := 4) dX0_run_23 (n_lit (by decide)) ?_
      refine a_imul dX0_run_24 ?_
      refine a_iload_n dX0_run_25 rfl rfl ?_
      refine a_iadd dX0_run_26 ?_
      refine a_rom (by decide) dX0_run_27 ⟨((h.2 c1).2 c2).1, ?_⟩
      refine a_if_ne (tgt := 45) dX0_run_28 (by decide) ⟨fun c3 => ?_, fun c3 => ?_⟩
      · exact (((h.2 c1).2 c2).2.1 c3)
      · refine a_gets (k := 2003) (fun hR => hR.2.1.2.2.2.1) fl_X0_29 (by decide) dX0_run_31 ?_
        refine a_iload dX0_run_34 rfl ?_
        refine a_rom (by decide) dX0_run_36 ⟨(((h.2 c1).2 c2).2.2 c3).1, ?_⟩
        refine a_istore dX0_run_37 (by decide) rfl ?_
        refine a_iinc dX0_run_39 rfl (by decide) rfl ?_
        refine a_goto (tgt := 6) dX0_run_42 (by decide) ?_
        exact (((h.2 c1).2 c2).2.2 c3).2
set_option maxRecDepth 10000 in
theorem sg_X0_run_45 {d : Nat} {sx : Option (List Int)} (a1 : Int) (a2 : Int) (a3 : Int) (a4 : Int) (a5 : Int) (a6 : Int) (a7 : Int) (mem : AMem) (Q : Option AV → AMem → Prop) (h : (a6 < (0 : Int) → (Q (some (vi 0)) mem)) ∧ (¬ a6 < (0 : Int) → ((a5 ≤ (40 : Int) → ((0 ≤ (w32 ((w32 (a6 * 4)) + a3)) ∧ (w32 ((w32 (a6 * 4)) + a3)) < ((romL 2004).length : Int)) ∧ (MtX yX0_begin cX0_begin 2 none d [vr 0 0, vi (List.getD (romL 2004) (Int.toNat (w32 ((w32 (a6 * 4)) + a3))) 0)] mem (fun r m3 => r = none ∧ (((List.getD (romL 2004) (Int.toNat (w32 ((w32 (a6 * 4)) + a3))) 0) = 1 → (Q (some (vi (w32 (a4 + a1)))) m3)) ∧ ((List.getD (romL 2004) (Int.toNat (w32 ((w32 (a6 * 4)) + a3))) 0) = 2 → (MtX yX0_own cX0_own 5 (some .int) d [vr 0 0, vi a1, vi 1, vi a4, vi a5] m3 (fun r m6 => ∃ x8 : Int, r = some (vi x8) ∧ (MtX yX0_own cX0_own 5 (some .int) d [vr 0 0, vi a1, vi 2, vi 1, vi a5] m6 (fun r m9 => ∃ x11 : Int, r = some (vi x11) ∧ (Q (some (vi (w32 (x8 - x11)))) m9)))))) ∧ ((List.getD (romL 2004) (Int.toNat (w32 ((w32 (a6 * 4)) + a3))) 0) = 10 → (MtX yX0_own cX0_own 5 (some .int) d [vr 0 0, vi a1, vi 0, vi a4, vi a5] m3 (fun r m12 => ∃ x14 : Int, r = some (vi x14) ∧ (Q (some (vi (w32 (x14 * 2)))) m12)))) ∧ ((List.getD (romL 2004) (Int.toNat (w32 ((w32 (a6 * 4)) + a3))) 0) = 11 → (Q (some (vi (xo32 a4 a1))) m3)) ∧ ((List.getD (romL 2004) (Int.toNat (w32 ((w32 (a6 * 4)) + a3))) 0) = 41 → ((0 ≤ a6 ∧ a6 < ((romL 2003).length : Int)) ∧ (MtX yX0_run cX0_run 8 (some .int) d [vr 0 0, vi a1, vi (List.getD (romL 2003) (Int.toNat a6) 0), vi a3, vi (w32 (a4 + 1)), vi (w32 (a5 + 1))] m3 (fun r m15 => ∃ x17 : Int, r = some (vi x17) ∧ (Q (some (vi x17)) m15))))) ∧ (¬ (List.getD (romL 2004) (Int.toNat (w32 ((w32 (a6 * 4)) + a3))) 0) = 1 → ¬ (List.getD (romL 2004) (Int.toNat (w32 ((w32 (a6 * 4)) + a3))) 0) = 2 → ¬ (List.getD (romL 2004) (Int.toNat (w32 ((w32 (a6 * 4)) + a3))) 0) = 10 → ¬ (List.getD (romL 2004) (Int.toNat (w32 ((w32 (a6 * 4)) + a3))) 0) = 11 → ¬ (List.getD (romL 2004) (Int.toNat (w32 ((w32 (a6 * 4)) + a3))) 0) = 41 → ((0 ≤ a6 ∧ a6 < ((romL 2003).length : Int)) ∧ (MtX yX0_run cX0_run 8 (some .int) d [vr 0 0, vi a1, vi (List.getD (romL 2003) (Int.toNat a6) 0), vi a3, vi a4, vi (w32 (a5 + 1))] m3 (fun r m18 => ∃ x20 : Int, r = some (vi x20) ∧ (MtX yX0_uponAbove cX0_uponAbove 5 (some .int) d [vr 0 0, vi (List.getD (romL 2004) (Int.toNat (w32 ((w32 (a6 * 4)) + a3))) 0), vi x20, vi a1, vi a5] m18 (fun r m21 => ∃ x23 : Int, r = some (vi x23) ∧ (Q (some (vi x23)) m21)))))))))))) ∧ (¬ a5 ≤ (40 : Int) → (Q (some (vi 0)) mem))))) : Y cX0_run 8 RX0 (d + 1) sx 45 [some (vr 0 0), some (vi a1), some (vi a2), some (vi a3), some (vi a4), some (vi a5), some (vi a6), some (vi a7)] [] mem Q := by
  refine a_iload dX0_run_45 rfl ?_
  refine a_if_lt (tgt := 57) dX0_run_47 (by decide) ⟨fun c1 => ?_, fun c1 => ?_⟩
  · refine a_iconst (k := 0) dX0_run_57 (n_lit (by decide)) ?_
    exact a_iret dX0_run_58 (h.1 c1)
  · refine a_iload dX0_run_50 rfl ?_
    refine a_bipush (k := 40) dX0_run_52 (by decide) (n_lit (by decide)) ?_
    refine a_icmp_le (tgt := 59) dX0_run_54 (by decide) ⟨fun c2 => ?_, fun c2 => ?_⟩
    · refine a_gets (k := 2004) (fun hR => hR.2.1.2.2.2.2.1) fl_X0_36 (by decide) dX0_run_59 ?_
      refine a_iload dX0_run_62 rfl ?_
      refine a_iconst (k := 4) dX0_run_64 (n_lit (by decide)) ?_
      refine a_imul dX0_run_65 ?_
      refine a_iload_n dX0_run_66 rfl rfl ?_
      refine a_iadd dX0_run_67 ?_
      refine a_rom (by decide) dX0_run_68 ⟨((h.2 c1).1 c2).1, ?_⟩
      refine a_istore dX0_run_69 (by decide) rfl ?_
      refine a_aload_n dX0_run_71 rfl rfl ?_
      refine a_iload dX0_run_72 rfl ?_
      refine iv_X0_39 dX0_run_74 (Nat.le_of_ble_eq_true rfl) (MtX_mono ((h.2 c1).1 c2).2 (fun r m3 hq => ?_))
      obtain ⟨rfl, h4⟩ := hq
      refine ⟨rfl, ?_⟩
      refine a_iload dX0_run_77 rfl ?_
      by_cases e50 : (List.getD (romL 2004) (Int.toNat (w32 ((w32 (a6 * 4)) + a3))) 0) = 1
      · refine a_lookup (tgt := 128) 49 dX0_run_79 (by decide) (z_hit e50) (by decide) ?_
        refine a_iload dX0_run_128 rfl ?_
        refine a_iload_n dX0_run_130 rfl rfl ?_
        refine a_iadd dX0_run_131 ?_
        exact a_iret dX0_run_132 (h4.1 e50)
      by_cases e51 : (List.getD (romL 2004) (Int.toNat (w32 ((w32 (a6 * 4)) + a3))) 0) = 2
      · refine a_lookup (tgt := 133) 54 dX0_run_79 (by decide) (z_miss e50 (z_hit e51)) (by decide) ?_
        refine a_aload_n dX0_run_133 rfl rfl ?_
        refine a_iload_n dX0_run_134 rfl rfl ?_
        refine a_iconst (k := 1) dX0_run_135 (n_lit (by decide)) ?_
        refine a_iload dX0_run_136 rfl ?_
        refine a_iload dX0_run_138 rfl ?_
        refine iv_X0_43 dX0_run_140 (Nat.le_of_ble_eq_true rfl) (MtX_mono (h4.2.1 e51) (fun r m6 hq => ?_))
        obtain ⟨x8, rfl, h7⟩ := hq
        refine ⟨x8, rfl, ?_⟩
        refine a_aload_n dX0_run_143 rfl rfl ?_
        refine a_iload_n dX0_run_144 rfl rfl ?_
        refine a_iconst (k := 2) dX0_run_145 (n_lit (by decide)) ?_
        refine a_iconst (k := 1) dX0_run_146 (n_lit (by decide)) ?_
        refine a_iload dX0_run_147 rfl ?_
        refine iv_X0_43 dX0_run_149 (Nat.le_of_ble_eq_true rfl) (MtX_mono h7 (fun r m9 hq => ?_))
        obtain ⟨x11, rfl, h10⟩ := hq
        refine ⟨x11, rfl, ?_⟩
        refine a_isub dX0_run_152 ?_
        exact a_iret dX0_run_153 h10
      by_cases e52 : (List.getD (romL 2004) (Int.toNat (w32 ((w32 (a6 * 4)) + a3))) 0) = 10
      · refine a_lookup (tgt := 154) 75 dX0_run_79 (by decide) (z_miss e50 (z_miss e51 (z_hit e52))) (by decide) ?_
        refine a_aload_n dX0_run_154 rfl rfl ?_
        refine a_iload_n dX0_run_155 rfl rfl ?_
        refine a_iconst (k := 0) dX0_run_156 (n_lit (by decide)) ?_
        refine a_iload dX0_run_157 rfl ?_
        refine a_iload dX0_run_159 rfl ?_
        refine iv_X0_43 dX0_run_161 (Nat.le_of_ble_eq_true rfl) (MtX_mono (h4.2.2.1 e52) (fun r m12 hq => ?_))
        obtain ⟨x14, rfl, h13⟩ := hq
        refine ⟨x14, rfl, ?_⟩
        refine a_iconst (k := 2) dX0_run_164 (n_lit (by decide)) ?_
        refine a_imul dX0_run_165 ?_
        exact a_iret dX0_run_166 h13
      by_cases e53 : (List.getD (romL 2004) (Int.toNat (w32 ((w32 (a6 * 4)) + a3))) 0) = 11
      · refine a_lookup (tgt := 167) 88 dX0_run_79 (by decide) (z_miss e50 (z_miss e51 (z_miss e52 (z_hit e53)))) (by decide) ?_
        refine a_iload dX0_run_167 rfl ?_
        refine a_iload_n dX0_run_169 rfl rfl ?_
        refine a_ixor dX0_run_170 ?_
        exact a_iret dX0_run_171 (h4.2.2.2.1 e53)
      by_cases e54 : (List.getD (romL 2004) (Int.toNat (w32 ((w32 (a6 * 4)) + a3))) 0) = 41
      · refine a_lookup (tgt := 172) 93 dX0_run_79 (by decide) (z_miss e50 (z_miss e51 (z_miss e52 (z_miss e53 (z_hit e54))))) (by decide) ?_
        refine a_aload_n dX0_run_172 rfl rfl ?_
        refine a_iload_n dX0_run_173 rfl rfl ?_
        refine a_gets (k := 2003) (fun hR => hR.2.1.2.2.2.1) fl_X0_29 (by decide) dX0_run_174 ?_
        refine a_iload dX0_run_177 rfl ?_
        refine a_rom (by decide) dX0_run_179 ⟨(h4.2.2.2.2.1 e54).1, ?_⟩
        refine a_iload_n dX0_run_180 rfl rfl ?_
        refine a_iload dX0_run_181 rfl ?_
        refine a_iconst (k := 1) dX0_run_183 (n_lit (by decide)) ?_
        refine a_iadd dX0_run_184 ?_
        refine a_iload dX0_run_185 rfl ?_
        refine a_iconst (k := 1) dX0_run_187 (n_lit (by decide)) ?_
        refine a_iadd dX0_run_188 ?_
        refine iv_X0_32 dX0_run_189 (Nat.le_of_ble_eq_true rfl) (MtX_mono (h4.2.2.2.2.1 e54).2 (fun r m15 hq => ?_))
        obtain ⟨x17, rfl, h16⟩ := hq
        refine ⟨x17, rfl, ?_⟩
        exact a_iret dX0_run_192 h16
      refine a_lookup (tgt := 193) 114 dX0_run_79 (by decide) (z_miss e50 (z_miss e51 (z_miss e52 (z_miss e53 (z_miss e54 (z_nil)))))) (by decide) ?_
      refine a_aload_n dX0_run_193 rfl rfl ?_
      refine a_iload dX0_run_194 rfl ?_
      refine a_aload_n dX0_run_196 rfl rfl ?_
      refine a_iload_n dX0_run_197 rfl rfl ?_
      refine a_gets (k := 2003) (fun hR => hR.2.1.2.2.2.1) fl_X0_29 (by decide) dX0_run_198 ?_
      refine a_iload dX0_run_201 rfl ?_
      refine a_rom (by decide) dX0_run_203 ⟨(h4.2.2.2.2.2 e50 e51 e52 e53 e54).1, ?_⟩
      refine a_iload_n dX0_run_204 rfl rfl ?_
      refine a_iload dX0_run_205 rfl ?_
      refine a_iload dX0_run_207 rfl ?_
      refine a_iconst (k := 1) dX0_run_209 (n_lit (by decide)) ?_
      refine a_iadd dX0_run_210 ?_
      refine iv_X0_32 dX0_run_211 (Nat.le_of_ble_eq_true rfl) (MtX_mono (h4.2.2.2.2.2 e50 e51 e52 e53 e54).2 (fun r m18 hq => ?_))
      obtain ⟨x20, rfl, h19⟩ := hq
      refine ⟨x20, rfl, ?_⟩
      refine a_iload_n dX0_run_214 rfl rfl ?_
      refine a_iload dX0_run_215 rfl ?_
      refine iv_X0_47 dX0_run_217 (Nat.le_of_ble_eq_true rfl) (MtX_mono h19 (fun r m21 hq => ?_))
      obtain ⟨x23, rfl, h22⟩ := hq
      refine ⟨x23, rfl, ?_⟩
      exact a_iret dX0_run_220 h22
    · refine a_iconst (k := 0) dX0_run_57 (n_lit (by decide)) ?_
      exact a_iret dX0_run_58 ((h.2 c1).2 c2)
set_option maxRecDepth 10000 in
theorem sg_X0_uponAbove_0 {d : Nat} {sx : Option (List Int)} (a1 : Int) (a2 : Int) (a3 : Int) (a4 : Int) (mem : AMem) (Q : Option AV → AMem → Prop) (h : (a1 = 20 → (Q (some (vi (w32 (a2 + 3)))) mem)) ∧ (a1 = 30 → (Q (some (vi (w32 (-a2)))) mem)) ∧ (a1 = 40 → (Q (some (vi (w32 (a2 * 3)))) mem)) ∧ (a1 = 50 → (Q (some (vi (xo32 a2 5))) mem)) ∧ (a1 = 60 → (MtX yX0_own cX0_own 5 (some .int) d [vr 0 0, vi a3, vi 0, vi 2, vi a4] mem (fun r m2 => ∃ x4 : Int, r = some (vi x4) ∧ (Q (some (vi (w32 (a2 - x4)))) m2)))) ∧ (a1 = 61 → (Q (some (vi (w32 (a2 + 1)))) mem)) ∧ (a1 = 70 → (Q (some (vi (w32 (a2 * 2)))) mem)) ∧ (a1 = 80 → (MtX yX0_own cX0_own 5 (some .int) d [vr 0 0, vi a3, vi 2, vi 2, vi a4] mem (fun r m5 => ∃ x7 : Int, r = some (vi x7) ∧ (Q (some (vi (w32 (a2 + x7)))) m5)))) ∧ (a1 = 81 → (Q (some (vi (w32 (a2 - 1)))) mem)) ∧ (¬ a1 = 20 → ¬ a1 = 30 → ¬ a1 = 40 → ¬ a1 = 50 → ¬ a1 = 60 → ¬ a1 = 61 → ¬ a1 = 70 → ¬ a1 = 80 → ¬ a1 = 81 → (Q (some (vi a2)) mem))) : Y cX0_uponAbove 5 RX0 (d + 1) sx 0 [some (vr 0 0), some (vi a1), some (vi a2), some (vi a3), some (vi a4)] [] mem Q := by
  refine a_iload_n dX0_uponAbove_0 rfl rfl ?_
  by_cases e10 : a1 = 20
  · refine a_lookup (tgt := 84) 83 dX0_uponAbove_1 (by decide) (z_hit e10) (by decide) ?_
    refine a_iload_n dX0_uponAbove_84 rfl rfl ?_
    refine a_iconst (k := 3) dX0_uponAbove_85 (n_lit (by decide)) ?_
    refine a_iadd dX0_uponAbove_86 ?_
    exact a_iret dX0_uponAbove_87 (h.1 e10)
  by_cases e11 : a1 = 30
  · refine a_lookup (tgt := 88) 87 dX0_uponAbove_1 (by decide) (z_miss e10 (z_hit e11)) (by decide) ?_
    refine a_iload_n dX0_uponAbove_88 rfl rfl ?_
    refine a_ineg dX0_uponAbove_89 ?_
    exact a_iret dX0_uponAbove_90 (h.2.1 e11)
  by_cases e12 : a1 = 40
  · refine a_lookup (tgt := 91) 90 dX0_uponAbove_1 (by decide) (z_miss e10 (z_miss e11 (z_hit e12))) (by decide) ?_
    refine a_iload_n dX0_uponAbove_91 rfl rfl ?_
    refine a_iconst (k := 3) dX0_uponAbove_92 (n_lit (by decide)) ?_
    refine a_imul dX0_uponAbove_93 ?_
    exact a_iret dX0_uponAbove_94 (h.2.2.1 e12)
  by_cases e13 : a1 = 50
  · refine a_lookup (tgt := 95) 94 dX0_uponAbove_1 (by decide) (z_miss e10 (z_miss e11 (z_miss e12 (z_hit e13)))) (by decide) ?_
    refine a_iload_n dX0_uponAbove_95 rfl rfl ?_
    refine a_iconst (k := 5) dX0_uponAbove_96 (n_lit (by decide)) ?_
    refine a_ixor dX0_uponAbove_97 ?_
    exact a_iret dX0_uponAbove_98 (h.2.2.2.1 e13)
  by_cases e14 : a1 = 60
  · refine a_lookup (tgt := 99) 98 dX0_uponAbove_1 (by decide) (z_miss e10 (z_miss e11 (z_miss e12 (z_miss e13 (z_hit e14))))) (by decide) ?_
    refine a_iload_n dX0_uponAbove_99 rfl rfl ?_
    refine a_aload_n dX0_uponAbove_100 rfl rfl ?_
    refine a_iload_n dX0_uponAbove_101 rfl rfl ?_
    refine a_iconst (k := 0) dX0_uponAbove_102 (n_lit (by decide)) ?_
    refine a_iconst (k := 2) dX0_uponAbove_103 (n_lit (by decide)) ?_
    refine a_iload dX0_uponAbove_104 rfl ?_
    refine iv_X0_43 dX0_uponAbove_106 (Nat.le_of_ble_eq_true rfl) (MtX_mono (h.2.2.2.2.1 e14) (fun r m2 hq => ?_))
    obtain ⟨x4, rfl, h3⟩ := hq
    refine ⟨x4, rfl, ?_⟩
    refine a_isub dX0_uponAbove_109 ?_
    exact a_iret dX0_uponAbove_110 h3
  by_cases e15 : a1 = 61
  · refine a_lookup (tgt := 111) 110 dX0_uponAbove_1 (by decide) (z_miss e10 (z_miss e11 (z_miss e12 (z_miss e13 (z_miss e14 (z_hit e15)))))) (by decide) ?_
    refine a_iload_n dX0_uponAbove_111 rfl rfl ?_
    refine a_iconst (k := 1) dX0_uponAbove_112 (n_lit (by decide)) ?_
    refine a_iadd dX0_uponAbove_113 ?_
    exact a_iret dX0_uponAbove_114 (h.2.2.2.2.2.1 e15)
  by_cases e16 : a1 = 70
  · refine a_lookup (tgt := 115) 114 dX0_uponAbove_1 (by decide) (z_miss e10 (z_miss e11 (z_miss e12 (z_miss e13 (z_miss e14 (z_miss e15 (z_hit e16))))))) (by decide) ?_
    refine a_iload_n dX0_uponAbove_115 rfl rfl ?_
    refine a_iconst (k := 2) dX0_uponAbove_116 (n_lit (by decide)) ?_
    refine a_imul dX0_uponAbove_117 ?_
    exact a_iret dX0_uponAbove_118 (h.2.2.2.2.2.2.1 e16)
  by_cases e17 : a1 = 80
  · refine a_lookup (tgt := 119) 118 dX0_uponAbove_1 (by decide) (z_miss e10 (z_miss e11 (z_miss e12 (z_miss e13 (z_miss e14 (z_miss e15 (z_miss e16 (z_hit e17)))))))) (by decide) ?_
    refine a_iload_n dX0_uponAbove_119 rfl rfl ?_
    refine a_aload_n dX0_uponAbove_120 rfl rfl ?_
    refine a_iload_n dX0_uponAbove_121 rfl rfl ?_
    refine a_iconst (k := 2) dX0_uponAbove_122 (n_lit (by decide)) ?_
    refine a_iconst (k := 2) dX0_uponAbove_123 (n_lit (by decide)) ?_
    refine a_iload dX0_uponAbove_124 rfl ?_
    refine iv_X0_43 dX0_uponAbove_126 (Nat.le_of_ble_eq_true rfl) (MtX_mono (h.2.2.2.2.2.2.2.1 e17) (fun r m5 hq => ?_))
    obtain ⟨x7, rfl, h6⟩ := hq
    refine ⟨x7, rfl, ?_⟩
    refine a_iadd dX0_uponAbove_129 ?_
    exact a_iret dX0_uponAbove_130 h6
  by_cases e18 : a1 = 81
  · refine a_lookup (tgt := 131) 130 dX0_uponAbove_1 (by decide) (z_miss e10 (z_miss e11 (z_miss e12 (z_miss e13 (z_miss e14 (z_miss e15 (z_miss e16 (z_miss e17 (z_hit e18))))))))) (by decide) ?_
    refine a_iload_n dX0_uponAbove_131 rfl rfl ?_
    refine a_iconst (k := 1) dX0_uponAbove_132 (n_lit (by decide)) ?_
    refine a_isub dX0_uponAbove_133 ?_
    exact a_iret dX0_uponAbove_134 (h.2.2.2.2.2.2.2.2.1 e18)
  refine a_lookup (tgt := 135) 134 dX0_uponAbove_1 (by decide) (z_miss e10 (z_miss e11 (z_miss e12 (z_miss e13 (z_miss e14 (z_miss e15 (z_miss e16 (z_miss e17 (z_miss e18 (z_nil)))))))))) (by decide) ?_
  refine a_iload_n dX0_uponAbove_135 rfl rfl ?_
  exact a_iret dX0_uponAbove_136 (h.2.2.2.2.2.2.2.2.2 e10 e11 e12 e13 e14 e15 e16 e17 e18)
set_option maxRecDepth 10000 in
theorem sg_X0_begin_0 {d : Nat} {sx : Option (List Int)} (a1 : Int) (mem : AMem) (Q : Option AV → AMem → Prop) (h : ((24 : Int) ≤ (mem 0 0 3) → (Q none (upM mem 0 0 3 (w32 ((mem 0 0 3) + 1))))) ∧ (¬ (24 : Int) ≤ (mem 0 0 3) → ((0 ≤ (mem 0 0 3) ∧ (mem 0 0 3) < 24) ∧ (Q none (upM (upM mem 101 0 (mem 0 0 3) a1) 0 0 3 (w32 ((mem 0 0 3) + 1))))))) : Y cX0_begin 2 RX0 (d + 1) sx 0 [some (vr 0 0), some (vi a1)] [] mem Q := by
  refine a_aload_n dX0_begin_0 rfl rfl ?_
  refine gf_X0_20 (x := mem 0 0 3) rfl dX0_begin_1 ?_
  refine a_bipush (k := 24) dX0_begin_4 (by decide) (n_lit (by decide)) ?_
  refine a_icmp_ge (tgt := 19) dX0_begin_6 (by decide) ⟨fun c1 => ?_, fun c1 => ?_⟩
  · refine a_aload_n dX0_begin_19 rfl rfl ?_
    refine a_dup dX0_begin_20 rfl ?_
    refine gf_X0_20 (x := mem 0 0 3) rfl dX0_begin_21 ?_
    refine a_iconst (k := 1) dX0_begin_24 (n_lit (by decide)) ?_
    refine a_iadd dX0_begin_25 ?_
    refine pf_X0_20 dX0_begin_26 ?_
    exact a_vret dX0_begin_29 (h.1 c1)
  · refine a_aload_n dX0_begin_9 rfl rfl ?_
    refine gf_X0_13 dX0_begin_10 ?_
    refine a_aload_n dX0_begin_13 rfl rfl ?_
    refine gf_X0_20 (x := mem 0 0 3) rfl dX0_begin_14 ?_
    refine a_iload_n dX0_begin_17 rfl rfl ?_
    refine a_iast rfl rfl (by decide) rfl dX0_begin_18 ⟨(h.2 c1).1, ?_⟩
    refine a_aload_n dX0_begin_19 rfl rfl ?_
    refine a_dup dX0_begin_20 rfl ?_
    refine gf_X0_20 (x := mem 0 0 3) rfl dX0_begin_21 ?_
    refine a_iconst (k := 1) dX0_begin_24 (n_lit (by decide)) ?_
    refine a_iadd dX0_begin_25 ?_
    refine pf_X0_20 dX0_begin_26 ?_
    exact a_vret dX0_begin_29 (h.2 c1).2
set_option maxRecDepth 10000 in
theorem sg_X1_note_0 {d : Nat} {sx : Option (List Int)} (a1 : Int) (a2 : Int) (a3 : Int) (a4 : Int) (mem : AMem) (Q : Option AV → AMem → Prop) (h : ((mem 1 0 4) < (40 : Int) → (Y cX1_note 5 RX1 (d + 1) sx 13 [some (vr 1 0), some (vi a1), some (vi a2), some (vi a3), some (vi a4)] [] mem Q)) ∧ (¬ (mem 1 0 4) < (40 : Int) → (MtX yX1_forgetFirst cX1_forgetFirst 1 none d [vr 1 0] mem (fun r m2 => r = none ∧ (Y cX1_note 5 RX1 (d + 1) sx 13 [some (vr 1 0), some (vi a1), some (vi a2), some (vi a3), some (vi a4)] [] m2 Q))))) : Y cX1_note 5 RX1 (d + 1) sx 0 [some (vr 1 0), some (vi a1), some (vi a2), some (vi a3), some (vi a4)] [] mem Q := by
  refine a_aload_n dX1_note_0 rfl rfl ?_
  refine gf_X1_22 (x := mem 1 0 4) rfl dX1_note_1 ?_
  refine a_bipush (k := 40) dX1_note_4 (by decide) (n_lit (by decide)) ?_
  refine a_icmp_lt (tgt := 13) dX1_note_6 (by decide) ⟨fun c1 => ?_, fun c1 => ?_⟩
  · exact (h.1 c1)
  · refine a_aload_n dX1_note_9 rfl rfl ?_
    refine iv_X1_26 dX1_note_10 (Nat.le_of_ble_eq_true rfl) (MtX_mono (h.2 c1) (fun r m2 hq => ?_))
    obtain ⟨rfl, h3⟩ := hq
    refine ⟨rfl, ?_⟩
    exact h3
set_option maxRecDepth 10000 in
theorem sg_X1_note_13 {d : Nat} {sx : Option (List Int)} (a1 : Int) (a2 : Int) (a3 : Int) (a4 : Int) (mem : AMem) (Q : Option AV → AMem → Prop) (h : (0 ≤ (mem 1 0 4) ∧ (mem 1 0 4) < 40) ∧ ((0 ≤ (mem 1 0 4) ∧ (mem 1 0 4) < 40) ∧ ((0 ≤ (mem 1 0 4) ∧ (mem 1 0 4) < 40) ∧ ((0 ≤ (mem 1 0 4) ∧ (mem 1 0 4) < 40) ∧ (Q none (upM (upM (upM (upM (upM (upM mem 200 0 (mem 1 0 4) a1) 201 0 (mem 1 0 4) a2) 202 0 (mem 1 0 4) a3) 203 0 (mem 1 0 4) a4) 1 0 4 (w32 ((mem 1 0 4) + 1))) 1 0 5 (w32 ((mem 1 0 4) + 1)))))))) : Y cX1_note 5 RX1 (d + 1) sx 13 [some (vr 1 0), some (vi a1), some (vi a2), some (vi a3), some (vi a4)] [] mem Q := by
  refine a_aload_n dX1_note_13 rfl rfl ?_
  refine gf_X1_9 dX1_note_14 ?_
  refine a_aload_n dX1_note_17 rfl rfl ?_
  refine gf_X1_22 (x := mem 1 0 4) rfl dX1_note_18 ?_
  refine a_iload_n dX1_note_21 rfl rfl ?_
  refine a_iast rfl rfl (by decide) rfl dX1_note_22 ⟨h.1, ?_⟩
  refine a_aload_n dX1_note_23 rfl rfl ?_
  refine gf_X1_13 dX1_note_24 ?_
  refine a_aload_n dX1_note_27 rfl rfl ?_
  refine gf_X1_22 (x := mem 1 0 4) rfl dX1_note_28 ?_
  refine a_iload_n dX1_note_31 rfl rfl ?_
  refine a_iast rfl rfl (by decide) rfl dX1_note_32 ⟨h.2.1, ?_⟩
  refine a_aload_n dX1_note_33 rfl rfl ?_
  refine gf_X1_16 dX1_note_34 ?_
  refine a_aload_n dX1_note_37 rfl rfl ?_
  refine gf_X1_22 (x := mem 1 0 4) rfl dX1_note_38 ?_
  refine a_iload_n dX1_note_41 rfl rfl ?_
  refine a_iast rfl rfl (by decide) rfl dX1_note_42 ⟨h.2.2.1, ?_⟩
  refine a_aload_n dX1_note_43 rfl rfl ?_
  refine gf_X1_19 dX1_note_44 ?_
  refine a_aload_n dX1_note_47 rfl rfl ?_
  refine gf_X1_22 (x := mem 1 0 4) rfl dX1_note_48 ?_
  refine a_iload dX1_note_51 rfl ?_
  refine a_iast rfl rfl (by decide) rfl dX1_note_53 ⟨h.2.2.2.1, ?_⟩
  refine a_aload_n dX1_note_54 rfl rfl ?_
  refine a_dup dX1_note_55 rfl ?_
  refine gf_X1_22 (x := mem 1 0 4) rfl dX1_note_56 ?_
  refine a_iconst (k := 1) dX1_note_59 (n_lit (by decide)) ?_
  refine a_iadd dX1_note_60 ?_
  refine pf_X1_22 dX1_note_61 ?_
  refine a_aload_n dX1_note_64 rfl rfl ?_
  refine a_aload_n dX1_note_65 rfl rfl ?_
  refine gf_X1_22 (x := w32 ((mem 1 0 4) + 1)) rfl dX1_note_66 ?_
  refine pf_X1_29 dX1_note_69 ?_
  exact a_vret dX1_note_72 h.2.2.2.2
set_option maxRecDepth 10000 in
theorem sg_X1_forgetFirst_0 {d : Nat} {sx : Option (List Int)}  (mem : AMem) (Q : Option AV → AMem → Prop) (h : (0 ≤ (1 : Int) ∧ 0 ≤ (0 : Int) ∧ 0 ≤ (39 : Int) ∧ (1 : Int) + (39 : Int) ≤ 40 ∧ (0 : Int) + (39 : Int) ≤ 40) ∧ ((0 ≤ (1 : Int) ∧ 0 ≤ (0 : Int) ∧ 0 ≤ (39 : Int) ∧ (1 : Int) + (39 : Int) ≤ 40 ∧ (0 : Int) + (39 : Int) ≤ 40) ∧ ((0 ≤ (1 : Int) ∧ 0 ≤ (0 : Int) ∧ 0 ≤ (39 : Int) ∧ (1 : Int) + (39 : Int) ≤ 40 ∧ (0 : Int) + (39 : Int) ≤ 40) ∧ ((0 ≤ (1 : Int) ∧ 0 ≤ (0 : Int) ∧ 0 ≤ (39 : Int) ∧ (1 : Int) + (39 : Int) ≤ 40 ∧ (0 : Int) + (39 : Int) ≤ 40) ∧ (Q none (cpM (cpM (cpM (cpM (upM mem 1 0 4 39) 200 0 0 200 0 1 39) 201 0 0 201 0 1 39) 202 0 0 202 0 1 39) 203 0 0 203 0 1 39)))))) : Y cX1_forgetFirst 1 RX1 (d + 1) sx 0 [some (vr 1 0)] [] mem Q := by
  refine a_aload_n dX1_forgetFirst_0 rfl rfl ?_
  refine a_bipush (k := 39) dX1_forgetFirst_1 (by decide) (n_lit (by decide)) ?_
  refine pf_X1_22 dX1_forgetFirst_3 ?_
  refine a_aload_n dX1_forgetFirst_6 rfl rfl ?_
  refine gf_X1_9 dX1_forgetFirst_7 ?_
  refine a_iconst (k := 1) dX1_forgetFirst_10 (n_lit (by decide)) ?_
  refine a_aload_n dX1_forgetFirst_11 rfl rfl ?_
  refine gf_X1_9 dX1_forgetFirst_12 ?_
  refine a_iconst (k := 0) dX1_forgetFirst_15 (n_lit (by decide)) ?_
  refine a_aload_n dX1_forgetFirst_16 rfl rfl ?_
  refine gf_X1_22 (x := 39) rfl dX1_forgetFirst_17 ?_
  refine a_copyI rfl rfl (by decide) rfl rfl (by decide) (by decide) rfl rfl ml_X1_32 mt_ac ms_ac mn_ac (by omega) (Nat.le_of_ble_eq_true rfl) dX1_forgetFirst_20 ⟨h.1, ?_⟩
  refine a_aload_n dX1_forgetFirst_23 rfl rfl ?_
  refine gf_X1_13 dX1_forgetFirst_24 ?_
  refine a_iconst (k := 1) dX1_forgetFirst_27 (n_lit (by decide)) ?_
  refine a_aload_n dX1_forgetFirst_28 rfl rfl ?_
  refine gf_X1_13 dX1_forgetFirst_29 ?_
  refine a_iconst (k := 0) dX1_forgetFirst_32 (n_lit (by decide)) ?_
  refine a_aload_n dX1_forgetFirst_33 rfl rfl ?_
  refine gf_X1_22 (x := 39) rfl dX1_forgetFirst_34 ?_
  refine a_copyI rfl rfl (by decide) rfl rfl (by decide) (by decide) rfl rfl ml_X1_32 mt_ac ms_ac mn_ac (by omega) (Nat.le_of_ble_eq_true rfl) dX1_forgetFirst_37 ⟨h.2.1, ?_⟩
  refine a_aload_n dX1_forgetFirst_40 rfl rfl ?_
  refine gf_X1_16 dX1_forgetFirst_41 ?_
  refine a_iconst (k := 1) dX1_forgetFirst_44 (n_lit (by decide)) ?_
  refine a_aload_n dX1_forgetFirst_45 rfl rfl ?_
  refine gf_X1_16 dX1_forgetFirst_46 ?_
  refine a_iconst (k := 0) dX1_forgetFirst_49 (n_lit (by decide)) ?_
  refine a_aload_n dX1_forgetFirst_50 rfl rfl ?_
  refine gf_X1_22 (x := 39) rfl dX1_forgetFirst_51 ?_
  refine a_copyI rfl rfl (by decide) rfl rfl (by decide) (by decide) rfl rfl ml_X1_32 mt_ac ms_ac mn_ac (by omega) (Nat.le_of_ble_eq_true rfl) dX1_forgetFirst_54 ⟨h.2.2.1, ?_⟩
  refine a_aload_n dX1_forgetFirst_57 rfl rfl ?_
  refine gf_X1_19 dX1_forgetFirst_58 ?_
  refine a_iconst (k := 1) dX1_forgetFirst_61 (n_lit (by decide)) ?_
  refine a_aload_n dX1_forgetFirst_62 rfl rfl ?_
  refine gf_X1_19 dX1_forgetFirst_63 ?_
  refine a_iconst (k := 0) dX1_forgetFirst_66 (n_lit (by decide)) ?_
  refine a_aload_n dX1_forgetFirst_67 rfl rfl ?_
  refine gf_X1_22 (x := 39) rfl dX1_forgetFirst_68 ?_
  refine a_copyI rfl rfl (by decide) rfl rfl (by decide) (by decide) rfl rfl ml_X1_32 mt_ac ms_ac mn_ac (by omega) (Nat.le_of_ble_eq_true rfl) dX1_forgetFirst_71 ⟨h.2.2.2.1, ?_⟩
  exact a_vret dX1_forgetFirst_74 h.2.2.2.2
set_option maxRecDepth 10000 in
theorem sg_X1_takeBack_0 {d : Nat} {sx : Option (List Int)}  (mem : AMem) (Q : Option AV → AMem → Prop) (h : ((0 : Int) < (mem 1 0 4) → ((0 ≤ (w32 ((mem 1 0 4) - 1)) ∧ (w32 ((mem 1 0 4) - 1)) < 40) ∧ ((0 ≤ (w32 ((mem 1 0 4) - 1)) ∧ (w32 ((mem 1 0 4) - 1)) < 40) ∧ ((0 ≤ (w32 ((mem 1 0 4) - 1)) ∧ (w32 ((mem 1 0 4) - 1)) < 40) ∧ (MtX yX2_change cX2_change 4 none d [vr 2 0, vi (mem 200 0 (w32 ((mem 1 0 4) - 1))), vi (mem 201 0 (w32 ((mem 1 0 4) - 1))), vi (mem 202 0 (w32 ((mem 1 0 4) - 1)))] (upM mem 1 0 4 (w32 ((mem 1 0 4) - 1))) (fun r m2 => r = none ∧ (Q (some (vi 1)) m2))))))) ∧ (¬ (0 : Int) < (mem 1 0 4) → (Q (some (vi 0)) mem))) : Y cX1_takeBack 2 RX1 (d + 1) sx 0 [some (vr 1 0), some (vr 2 0)] [] mem Q := by
  refine a_aload_n dX1_takeBack_0 rfl rfl ?_
  refine gf_X1_22 (x := mem 1 0 4) rfl dX1_takeBack_1 ?_
  refine a_if_gt (tgt := 9) dX1_takeBack_4 (by decide) ⟨fun c1 => ?_, fun c1 => ?_⟩
  · refine a_aload_n dX1_takeBack_9 rfl rfl ?_
    refine a_dup dX1_takeBack_10 rfl ?_
    refine gf_X1_22 (x := mem 1 0 4) rfl dX1_takeBack_11 ?_
    refine a_iconst (k := 1) dX1_takeBack_14 (n_lit (by decide)) ?_
    refine a_isub dX1_takeBack_15 ?_
    refine pf_X1_22 dX1_takeBack_16 ?_
    refine a_aload_n dX1_takeBack_19 rfl rfl ?_
    refine a_aload_n dX1_takeBack_20 rfl rfl ?_
    refine gf_X1_9 dX1_takeBack_21 ?_
    refine a_aload_n dX1_takeBack_24 rfl rfl ?_
    refine gf_X1_22 (x := w32 ((mem 1 0 4) - 1)) rfl dX1_takeBack_25 ?_
    refine a_iald rfl rfl (by decide) rfl dX1_takeBack_28 ⟨(h.1 c1).1, ?_⟩
    refine a_aload_n dX1_takeBack_29 rfl rfl ?_
    refine gf_X1_13 dX1_takeBack_30 ?_
    refine a_aload_n dX1_takeBack_33 rfl rfl ?_
    refine gf_X1_22 (x := w32 ((mem 1 0 4) - 1)) rfl dX1_takeBack_34 ?_
    refine a_iald rfl rfl (by decide) rfl dX1_takeBack_37 ⟨(h.1 c1).2.1, ?_⟩
    refine a_aload_n dX1_takeBack_38 rfl rfl ?_
    refine gf_X1_16 dX1_takeBack_39 ?_
    refine a_aload_n dX1_takeBack_42 rfl rfl ?_
    refine gf_X1_22 (x := w32 ((mem 1 0 4) - 1)) rfl dX1_takeBack_43 ?_
    refine a_iald rfl rfl (by decide) rfl dX1_takeBack_46 ⟨(h.1 c1).2.2.1, ?_⟩
    refine iv_X1_38 dX1_takeBack_47 (Nat.le_of_ble_eq_true rfl) (MtX_mono (h.1 c1).2.2.2 (fun r m2 hq => ?_))
    obtain ⟨rfl, h3⟩ := hq
    refine ⟨rfl, ?_⟩
    refine a_iconst (k := 1) dX1_takeBack_50 (n_lit (by decide)) ?_
    exact a_iret dX1_takeBack_51 h3
  · refine a_iconst (k := 0) dX1_takeBack_7 (n_lit (by decide)) ?_
    exact a_iret dX1_takeBack_8 (h.2 c1)
set_option maxRecDepth 10000 in
theorem sg_X1_doAgain_0 {d : Nat} {sx : Option (List Int)}  (mem : AMem) (Q : Option AV → AMem → Prop) (h : ((mem 1 0 4) < (mem 1 0 5) → ((0 ≤ (mem 1 0 4) ∧ (mem 1 0 4) < 40) ∧ ((0 ≤ (mem 1 0 4) ∧ (mem 1 0 4) < 40) ∧ ((0 ≤ (mem 1 0 4) ∧ (mem 1 0 4) < 40) ∧ (MtX yX2_change cX2_change 4 none d [vr 2 0, vi (mem 200 0 (mem 1 0 4)), vi (mem 201 0 (mem 1 0 4)), vi (mem 203 0 (mem 1 0 4))] mem (fun r m2 => r = none ∧ (Q (some (vi 1)) (upM m2 1 0 4 (w32 ((m2 1 0 4) + 1)))))))))) ∧ (¬ (mem 1 0 4) < (mem 1 0 5) → (Q (some (vi 0)) mem))) : Y cX1_doAgain 2 RX1 (d + 1) sx 0 [some (vr 1 0), some (vr 2 0)] [] mem Q := by
  refine a_aload_n dX1_doAgain_0 rfl rfl ?_
  refine gf_X1_22 (x := mem 1 0 4) rfl dX1_doAgain_1 ?_
  refine a_aload_n dX1_doAgain_4 rfl rfl ?_
  refine gf_X1_29 (x := mem 1 0 5) rfl dX1_doAgain_5 ?_
  refine a_icmp_lt (tgt := 13) dX1_doAgain_8 (by decide) ⟨fun c1 => ?_, fun c1 => ?_⟩
  · refine a_aload_n dX1_doAgain_13 rfl rfl ?_
    refine a_aload_n dX1_doAgain_14 rfl rfl ?_
    refine gf_X1_9 dX1_doAgain_15 ?_
    refine a_aload_n dX1_doAgain_18 rfl rfl ?_
    refine gf_X1_22 (x := mem 1 0 4) rfl dX1_doAgain_19 ?_
    refine a_iald rfl rfl (by decide) rfl dX1_doAgain_22 ⟨(h.1 c1).1, ?_⟩
    refine a_aload_n dX1_doAgain_23 rfl rfl ?_
    refine gf_X1_13 dX1_doAgain_24 ?_
    refine a_aload_n dX1_doAgain_27 rfl rfl ?_
    refine gf_X1_22 (x := mem 1 0 4) rfl dX1_doAgain_28 ?_
    refine a_iald rfl rfl (by decide) rfl dX1_doAgain_31 ⟨(h.1 c1).2.1, ?_⟩
    refine a_aload_n dX1_doAgain_32 rfl rfl ?_
    refine gf_X1_19 dX1_doAgain_33 ?_
    refine a_aload_n dX1_doAgain_36 rfl rfl ?_
    refine gf_X1_22 (x := mem 1 0 4) rfl dX1_doAgain_37 ?_
    refine a_iald rfl rfl (by decide) rfl dX1_doAgain_40 ⟨(h.1 c1).2.2.1, ?_⟩
    refine iv_X1_38 dX1_doAgain_41 (Nat.le_of_ble_eq_true rfl) (MtX_mono (h.1 c1).2.2.2 (fun r m2 hq => ?_))
    obtain ⟨rfl, h3⟩ := hq
    refine ⟨rfl, ?_⟩
    refine a_aload_n dX1_doAgain_44 rfl rfl ?_
    refine a_dup dX1_doAgain_45 rfl ?_
    refine gf_X1_22 (x := m2 1 0 4) rfl dX1_doAgain_46 ?_
    refine a_iconst (k := 1) dX1_doAgain_49 (n_lit (by decide)) ?_
    refine a_iadd dX1_doAgain_50 ?_
    refine pf_X1_22 dX1_doAgain_51 ?_
    refine a_iconst (k := 1) dX1_doAgain_54 (n_lit (by decide)) ?_
    exact a_iret dX1_doAgain_55 h3
  · refine a_iconst (k := 0) dX1_doAgain_11 (n_lit (by decide)) ?_
    exact a_iret dX1_doAgain_12 (h.2 c1)
set_option maxRecDepth 10000 in
theorem sg_X2_isFull_0 {d : Nat} {sx : Option (List Int)}  (mem : AMem) (Q : Option AV → AMem → Prop) (h : ((mem 2 0 5) < (7 : Int) → (Q (some (vi 0)) mem)) ∧ (¬ (mem 2 0 5) < (7 : Int) → (Q (some (vi 1)) mem))) : Y cX2_isFull 1 RX2 (d + 1) sx 0 [some (vr 2 0)] [] mem Q := by
  refine a_aload_n dX2_isFull_0 rfl rfl ?_
  refine gf_X2_31 (x := mem 2 0 5) rfl dX2_isFull_1 ?_
  refine a_bipush (k := 7) dX2_isFull_4 (by decide) (n_lit (by decide)) ?_
  refine a_icmp_lt (tgt := 13) dX2_isFull_6 (by decide) ⟨fun c1 => ?_, fun c1 => ?_⟩
  · refine a_iconst (k := 0) dX2_isFull_13 (n_lit (by decide)) ?_
    exact a_iret dX2_isFull_14 (h.1 c1)
  · refine a_iconst (k := 1) dX2_isFull_9 (n_lit (by decide)) ?_
    refine a_goto (tgt := 14) dX2_isFull_10 (by decide) ?_
    exact a_iret dX2_isFull_14 (h.2 c1)
set_option maxRecDepth 10000 in
theorem sg_X2_add_0 {d : Nat} {sx : Option (List Int)} (a1 : Int) (a2 : Int) (a3 : Int) (mem : AMem) (Q : Option AV → AMem → Prop) (h : (0 ≤ (mem 2 0 5) ∧ (mem 2 0 5) < 7) ∧ ((0 ≤ (mem 2 0 5) ∧ (mem 2 0 5) < 7) ∧ ((0 ≤ (mem 2 0 5) ∧ (mem 2 0 5) < 7) ∧ (Q (some (vi (mem 2 0 5))) (upM (upM (upM (upM (upM (upM mem 300 0 (mem 2 0 5) a1) 301 0 (mem 2 0 5) a2) 302 0 (mem 2 0 5) a3) 2 0 4 (or_32 (mem 2 0 4) (shl32 1 (mem 2 0 5)))) 2 0 5 (w32 ((mem 2 0 5) + 1))) 2 0 6 (w32 ((mem 2 0 6) + 1))))))) : Y cX2_add 5 RX2 (d + 1) sx 0 [some (vr 2 0), some (vi a1), some (vi a2), some (vi a3), none] [] mem Q := by
  refine a_aload_n dX2_add_0 rfl rfl ?_
  refine gf_X2_31 (x := mem 2 0 5) rfl dX2_add_1 ?_
  refine a_istore dX2_add_4 (by decide) rfl ?_
  refine a_aload_n dX2_add_6 rfl rfl ?_
  refine gf_X2_9 dX2_add_7 ?_
  refine a_iload dX2_add_10 rfl ?_
  refine a_iload_n dX2_add_12 rfl rfl ?_
  refine a_iast rfl rfl (by decide) rfl dX2_add_13 ⟨h.1, ?_⟩
  refine a_aload_n dX2_add_14 rfl rfl ?_
  refine gf_X2_15 dX2_add_15 ?_
  refine a_iload dX2_add_18 rfl ?_
  refine a_iload_n dX2_add_20 rfl rfl ?_
  refine a_iast rfl rfl (by decide) rfl dX2_add_21 ⟨h.2.1, ?_⟩
  refine a_aload_n dX2_add_22 rfl rfl ?_
  refine gf_X2_18 dX2_add_23 ?_
  refine a_iload dX2_add_26 rfl ?_
  refine a_iload_n dX2_add_28 rfl rfl ?_
  refine a_iast rfl rfl (by decide) rfl dX2_add_29 ⟨h.2.2.1, ?_⟩
  refine a_aload_n dX2_add_30 rfl rfl ?_
  refine a_dup dX2_add_31 rfl ?_
  refine gf_X2_35 (x := mem 2 0 4) rfl dX2_add_32 ?_
  refine a_iconst (k := 1) dX2_add_35 (n_lit (by decide)) ?_
  refine a_iload dX2_add_36 rfl ?_
  refine a_ishl dX2_add_38 ?_
  refine a_ior dX2_add_39 ?_
  refine pf_X2_35 dX2_add_40 ?_
  refine a_aload_n dX2_add_43 rfl rfl ?_
  refine a_dup dX2_add_44 rfl ?_
  refine gf_X2_31 (x := mem 2 0 5) rfl dX2_add_45 ?_
  refine a_iconst (k := 1) dX2_add_48 (n_lit (by decide)) ?_
  refine a_iadd dX2_add_49 ?_
  refine pf_X2_31 dX2_add_50 ?_
  refine a_aload_n dX2_add_53 rfl rfl ?_
  refine a_dup dX2_add_54 rfl ?_
  refine gf_X2_38 (x := mem 2 0 6) rfl dX2_add_55 ?_
  refine a_iconst (k := 1) dX2_add_58 (n_lit (by decide)) ?_
  refine a_iadd dX2_add_59 ?_
  refine pf_X2_38 dX2_add_60 ?_
  refine a_iload dX2_add_63 rfl ?_
  exact a_iret dX2_add_65 h.2.2.2
set_option maxRecDepth 10000 in
theorem sg_X2_exists_0 {d : Nat} {sx : Option (List Int)} (a1 : Int) (mem : AMem) (Q : Option AV → AMem → Prop) (h : (a1 < (0 : Int) → (Q (some (vi 0)) mem)) ∧ (¬ a1 < (0 : Int) → (((mem 2 0 5) ≤ a1 → (Q (some (vi 0)) mem)) ∧ (¬ (mem 2 0 5) ≤ a1 → (Q (some (vi 1)) mem))))) : Y cX2_exists 2 RX2 (d + 1) sx 0 [some (vr 2 0), some (vi a1)] [] mem Q := by
  refine a_iload_n dX2_exists_0 rfl rfl ?_
  refine a_if_lt (tgt := 16) dX2_exists_1 (by decide) ⟨fun c1 => ?_, fun c1 => ?_⟩
  · refine a_iconst (k := 0) dX2_exists_16 (n_lit (by decide)) ?_
    exact a_iret dX2_exists_17 (h.1 c1)
  · refine a_iload_n dX2_exists_4 rfl rfl ?_
    refine a_aload_n dX2_exists_5 rfl rfl ?_
    refine gf_X2_31 (x := mem 2 0 5) rfl dX2_exists_6 ?_
    refine a_icmp_ge (tgt := 16) dX2_exists_9 (by decide) ⟨fun c2 => ?_, fun c2 => ?_⟩
    · refine a_iconst (k := 0) dX2_exists_16 (n_lit (by decide)) ?_
      exact a_iret dX2_exists_17 ((h.2 c1).1 c2)
    · refine a_iconst (k := 1) dX2_exists_12 (n_lit (by decide)) ?_
      refine a_goto (tgt := 17) dX2_exists_13 (by decide) ?_
      exact a_iret dX2_exists_17 ((h.2 c1).2 c2)
set_option maxRecDepth 10000 in
theorem sg_X2_isInside_0 {d : Nat} {sx : Option (List Int)} (a1 : Int) (mem : AMem) (Q : Option AV → AMem → Prop) (h : MtX yX2_exists cX2_exists 2 (some .boolean) d [vr 2 0, vi a1] mem (fun r m1 => ∃ x3 : Int, r = some (vi x3) ∧ ((x3 = (0 : Int) → (Q (some (vi 0)) m1)) ∧ (¬ x3 = (0 : Int) → (((an32 (shr32 (m1 2 0 4) a1) 1) ≠ (1 : Int) → (Q (some (vi 0)) m1)) ∧ ((an32 (shr32 (m1 2 0 4) a1) 1) = (1 : Int) → (Q (some (vi 1)) m1))))))) : Y cX2_isInside 2 RX2 (d + 1) sx 0 [some (vr 2 0), some (vi a1)] [] mem Q := by
  refine a_aload_n dX2_isInside_0 rfl rfl ?_
  refine a_iload_n dX2_isInside_1 rfl rfl ?_
  refine iv_X2_41 dX2_isInside_2 (Nat.le_of_ble_eq_true rfl) (MtX_mono h (fun r m1 hq => ?_))
  obtain ⟨x3, rfl, h2⟩ := hq
  refine ⟨x3, rfl, ?_⟩
  refine a_if_eq (tgt := 24) dX2_isInside_5 (by decide) ⟨fun c4 => ?_, fun c4 => ?_⟩
  · refine a_iconst (k := 0) dX2_isInside_24 (n_lit (by decide)) ?_
    exact a_iret dX2_isInside_25 (h2.1 c4)
  · refine a_aload_n dX2_isInside_8 rfl rfl ?_
    refine gf_X2_35 (x := m1 2 0 4) rfl dX2_isInside_9 ?_
    refine a_iload_n dX2_isInside_12 rfl rfl ?_
    refine a_ishr dX2_isInside_13 ?_
    refine a_iconst (k := 1) dX2_isInside_14 (n_lit (by decide)) ?_
    refine a_iand dX2_isInside_15 ?_
    refine a_iconst (k := 1) dX2_isInside_16 (n_lit (by decide)) ?_
    refine a_icmp_ne (tgt := 24) dX2_isInside_17 (by decide) ⟨fun c5 => ?_, fun c5 => ?_⟩
    · refine a_iconst (k := 0) dX2_isInside_24 (n_lit (by decide)) ?_
      exact a_iret dX2_isInside_25 ((h2.2 c4).1 c5)
    · refine a_iconst (k := 1) dX2_isInside_20 (n_lit (by decide)) ?_
      refine a_goto (tgt := 25) dX2_isInside_21 (by decide) ?_
      exact a_iret dX2_isInside_25 ((h2.2 c4).2 c5)
set_option maxRecDepth 10000 in
theorem sg_X2_knows_0 {d : Nat} {sx : Option (List Int)} (a1 : Int) (a2 : Int) (mem : AMem) (Q : Option AV → AMem → Prop) (h : (a2 < (0 : Int) → (Q (some (vi 0)) mem)) ∧ (¬ a2 < (0 : Int) → ((a2 ≤ (13 : Int) → (((3 : Int) < a2 → ((a1 ≠ (0 : Int) → (Q (some (vi 0)) mem)) ∧ (a1 = (0 : Int) → (Q (some (vi 1)) mem)))) ∧ (¬ (3 : Int) < a2 → (MtX yX2_exists cX2_exists 2 (some .boolean) d [vr 2 0, vi a1] mem (fun r m5 => ∃ x7 : Int, r = some (vi x7) ∧ (Q (some (vi x7)) m5)))))) ∧ (¬ a2 ≤ (13 : Int) → (Q (some (vi 0)) mem))))) : Y cX2_knows 3 RX2 (d + 1) sx 0 [some (vr 2 0), some (vi a1), some (vi a2)] [] mem Q := by
  refine a_iload_n dX2_knows_0 rfl rfl ?_
  refine a_if_lt (tgt := 10) dX2_knows_1 (by decide) ⟨fun c1 => ?_, fun c1 => ?_⟩
  · refine a_iconst (k := 0) dX2_knows_10 (n_lit (by decide)) ?_
    exact a_iret dX2_knows_11 (h.1 c1)
  · refine a_iload_n dX2_knows_4 rfl rfl ?_
    refine a_bipush (k := 13) dX2_knows_5 (by decide) (n_lit (by decide)) ?_
    refine a_icmp_le (tgt := 12) dX2_knows_7 (by decide) ⟨fun c2 => ?_, fun c2 => ?_⟩
    · refine a_iload_n dX2_knows_12 rfl rfl ?_
      refine a_iconst (k := 3) dX2_knows_13 (n_lit (by decide)) ?_
      refine a_icmp_gt (tgt := 25) dX2_knows_14 (by decide) ⟨fun c3 => ?_, fun c3 => ?_⟩
      · refine a_iload_n dX2_knows_25 rfl rfl ?_
        refine a_if_ne (tgt := 33) dX2_knows_26 (by decide) ⟨fun c4 => ?_, fun c4 => ?_⟩
        · refine a_iconst (k := 0) dX2_knows_33 (n_lit (by decide)) ?_
          exact a_iret dX2_knows_34 ((((h.2 c1).1 c2).1 c3).1 c4)
        · refine a_iconst (k := 1) dX2_knows_29 (n_lit (by decide)) ?_
          refine a_goto (tgt := 34) dX2_knows_30 (by decide) ?_
          exact a_iret dX2_knows_34 ((((h.2 c1).1 c2).1 c3).2 c4)
      · refine a_aload_n dX2_knows_17 rfl rfl ?_
        refine a_iload_n dX2_knows_18 rfl rfl ?_
        refine iv_X2_41 dX2_knows_19 (Nat.le_of_ble_eq_true rfl) (MtX_mono (((h.2 c1).1 c2).2 c3) (fun r m5 hq => ?_))
        obtain ⟨x7, rfl, h6⟩ := hq
        refine ⟨x7, rfl, ?_⟩
        refine a_goto (tgt := 34) dX2_knows_22 (by decide) ?_
        exact a_iret dX2_knows_34 h6
    · refine a_iconst (k := 0) dX2_knows_10 (n_lit (by decide)) ?_
      exact a_iret dX2_knows_11 ((h.2 c1).2 c2)
set_option maxRecDepth 10000 in
theorem sg_X2_tell_0 {d : Nat} {sx : Option (List Int)} (a1 : Int) (a2 : Int) (mem : AMem) (Q : Option AV → AMem → Prop) (h : (a2 = 0 → ((0 ≤ a1 ∧ a1 < 7) ∧ (Q (some (vi (mem 300 0 a1))) mem))) ∧ (a2 = 1 → ((0 ≤ a1 ∧ a1 < 7) ∧ (Q (some (vi (mem 301 0 a1))) mem))) ∧ (a2 = 2 → ((0 ≤ a1 ∧ a1 < 7) ∧ (Q (some (vi (mem 302 0 a1))) mem))) ∧ (a2 = 3 → (Q (some (vi (an32 (shr32 (mem 2 0 4) a1) 1))) mem)) ∧ (¬ (0 ≤ a2 ∧ a2 ≤ 3) → ((0 ≤ a2 ∧ a2 < 14) ∧ (Q (some (vi (mem 303 0 a2))) mem)))) : Y cX2_tell 3 RX2 (d + 1) sx 0 [some (vr 2 0), some (vi a1), some (vi a2)] [] mem Q := by
  refine a_iload_n dX2_tell_0 rfl rfl ?_
  refine a_table dX2_tell_1 (fun z => if z = 0 then 32 else if z = 1 then 39 else if z = 2 then 46 else if z = 3 then 53 else 0) 62 (by decide) (by decide) (by decide) ⟨fun e1a e1b => ?_, fun e2 => ?_⟩
  · rcases (by omega : a2 = 0 ∨ a2 = 1 ∨ a2 = 2 ∨ a2 = 3) with e1 | e1 | e1 | e1
    · refine Y_at (pc := 32) (by rw [e1]; rfl) ?_
      refine a_aload_n dX2_tell_32 rfl rfl ?_
      refine gf_X2_9 dX2_tell_33 ?_
      refine a_iload_n dX2_tell_36 rfl rfl ?_
      refine a_iald rfl rfl (by decide) rfl dX2_tell_37 ⟨(h.1 e1).1, ?_⟩
      exact a_iret dX2_tell_38 (h.1 e1).2
    · refine Y_at (pc := 39) (by rw [e1]; rfl) ?_
      refine a_aload_n dX2_tell_39 rfl rfl ?_
      refine gf_X2_15 dX2_tell_40 ?_
      refine a_iload_n dX2_tell_43 rfl rfl ?_
      refine a_iald rfl rfl (by decide) rfl dX2_tell_44 ⟨(h.2.1 e1).1, ?_⟩
      exact a_iret dX2_tell_45 (h.2.1 e1).2
    · refine Y_at (pc := 46) (by rw [e1]; rfl) ?_
      refine a_aload_n dX2_tell_46 rfl rfl ?_
      refine gf_X2_18 dX2_tell_47 ?_
      refine a_iload_n dX2_tell_50 rfl rfl ?_
      refine a_iald rfl rfl (by decide) rfl dX2_tell_51 ⟨(h.2.2.1 e1).1, ?_⟩
      exact a_iret dX2_tell_52 (h.2.2.1 e1).2
    · refine Y_at (pc := 53) (by rw [e1]; rfl) ?_
      refine a_aload_n dX2_tell_53 rfl rfl ?_
      refine gf_X2_35 (x := mem 2 0 4) rfl dX2_tell_54 ?_
      refine a_iload_n dX2_tell_57 rfl rfl ?_
      refine a_ishr dX2_tell_58 ?_
      refine a_iconst (k := 1) dX2_tell_59 (n_lit (by decide)) ?_
      refine a_iand dX2_tell_60 ?_
      exact a_iret dX2_tell_61 (h.2.2.2.1 e1)
  · refine a_aload_n dX2_tell_62 rfl rfl ?_
    refine gf_X2_21 dX2_tell_63 ?_
    refine a_iload_n dX2_tell_66 rfl rfl ?_
    refine a_iald rfl rfl (by decide) rfl dX2_tell_67 ⟨(h.2.2.2.2 e2).1, ?_⟩
    exact a_iret dX2_tell_68 (h.2.2.2.2 e2).2
set_option maxRecDepth 10000 in
theorem sg_X2_change_0 {d : Nat} {sx : Option (List Int)} (a1 : Int) (a2 : Int) (a3 : Int) (mem : AMem) (Q : Option AV → AMem → Prop) (h : (a2 = 0 → ((0 ≤ a1 ∧ a1 < 7) ∧ (Q none (upM (upM mem 2 0 6 (w32 ((mem 2 0 6) + 1))) 300 0 a1 a3)))) ∧ (a2 = 1 → ((0 ≤ a1 ∧ a1 < 7) ∧ (Q none (upM (upM mem 2 0 6 (w32 ((mem 2 0 6) + 1))) 301 0 a1 a3)))) ∧ (a2 = 2 → ((0 ≤ a1 ∧ a1 < 7) ∧ (Q none (upM (upM mem 2 0 6 (w32 ((mem 2 0 6) + 1))) 302 0 a1 a3)))) ∧ (a2 = 3 → (Q none (upM (upM mem 2 0 6 (w32 ((mem 2 0 6) + 1))) 2 0 4 (or_32 (an32 (mem 2 0 4) (xo32 (shl32 1 a1) (-1))) (shl32 a3 a1))))) ∧ (¬ (0 ≤ a2 ∧ a2 ≤ 3) → ((0 ≤ a2 ∧ a2 < 14) ∧ (Q none (upM (upM mem 2 0 6 (w32 ((mem 2 0 6) + 1))) 303 0 a2 a3))))) : Y cX2_change 4 RX2 (d + 1) sx 0 [some (vr 2 0), some (vi a1), some (vi a2), some (vi a3)] [] mem Q := by
  refine a_aload_n dX2_change_0 rfl rfl ?_
  refine a_dup dX2_change_1 rfl ?_
  refine gf_X2_38 (x := mem 2 0 6) rfl dX2_change_2 ?_
  refine a_iconst (k := 1) dX2_change_5 (n_lit (by decide)) ?_
  refine a_iadd dX2_change_6 ?_
  refine pf_X2_38 dX2_change_7 ?_
  refine a_iload_n dX2_change_10 rfl rfl ?_
  refine a_table dX2_change_11 (fun z => if z = 0 then 40 else if z = 1 then 50 else if z = 2 then 60 else if z = 3 then 70 else 0) 91 (by decide) (by decide) (by decide) ⟨fun e1a e1b => ?_, fun e2 => ?_⟩
  · rcases (by omega : a2 = 0 ∨ a2 = 1 ∨ a2 = 2 ∨ a2 = 3) with e1 | e1 | e1 | e1
    · refine Y_at (pc := 40) (by rw [e1]; rfl) ?_
      refine a_aload_n dX2_change_40 rfl rfl ?_
      refine gf_X2_9 dX2_change_41 ?_
      refine a_iload_n dX2_change_44 rfl rfl ?_
      refine a_iload_n dX2_change_45 rfl rfl ?_
      refine a_iast rfl rfl (by decide) rfl dX2_change_46 ⟨(h.1 e1).1, ?_⟩
      refine a_goto (tgt := 98) dX2_change_47 (by decide) ?_
      exact a_vret dX2_change_98 (h.1 e1).2
    · refine Y_at (pc := 50) (by rw [e1]; rfl) ?_
      refine a_aload_n dX2_change_50 rfl rfl ?_
      refine gf_X2_15 dX2_change_51 ?_
      refine a_iload_n dX2_change_54 rfl rfl ?_
      refine a_iload_n dX2_change_55 rfl rfl ?_
      refine a_iast rfl rfl (by decide) rfl dX2_change_56 ⟨(h.2.1 e1).1, ?_⟩
      refine a_goto (tgt := 98) dX2_change_57 (by decide) ?_
      exact a_vret dX2_change_98 (h.2.1 e1).2
    · refine Y_at (pc := 60) (by rw [e1]; rfl) ?_
      refine a_aload_n dX2_change_60 rfl rfl ?_
      refine gf_X2_18 dX2_change_61 ?_
      refine a_iload_n dX2_change_64 rfl rfl ?_
      refine a_iload_n dX2_change_65 rfl rfl ?_
      refine a_iast rfl rfl (by decide) rfl dX2_change_66 ⟨(h.2.2.1 e1).1, ?_⟩
      refine a_goto (tgt := 98) dX2_change_67 (by decide) ?_
      exact a_vret dX2_change_98 (h.2.2.1 e1).2
    · refine Y_at (pc := 70) (by rw [e1]; rfl) ?_
      refine a_aload_n dX2_change_70 rfl rfl ?_
      refine a_aload_n dX2_change_71 rfl rfl ?_
      refine gf_X2_35 (x := mem 2 0 4) rfl dX2_change_72 ?_
      refine a_iconst (k := 1) dX2_change_75 (n_lit (by decide)) ?_
      refine a_iload_n dX2_change_76 rfl rfl ?_
      refine a_ishl dX2_change_77 ?_
      refine a_iconst (k := (-1)) dX2_change_78 (n_lit (by decide)) ?_
      refine a_ixor dX2_change_79 ?_
      refine a_iand dX2_change_80 ?_
      refine a_iload_n dX2_change_81 rfl rfl ?_
      refine a_iload_n dX2_change_82 rfl rfl ?_
      refine a_ishl dX2_change_83 ?_
      refine a_ior dX2_change_84 ?_
      refine pf_X2_35 dX2_change_85 ?_
      refine a_goto (tgt := 98) dX2_change_88 (by decide) ?_
      exact a_vret dX2_change_98 (h.2.2.2.1 e1)
  · refine a_aload_n dX2_change_91 rfl rfl ?_
    refine gf_X2_21 dX2_change_92 ?_
    refine a_iload_n dX2_change_95 rfl rfl ?_
    refine a_iload_n dX2_change_96 rfl rfl ?_
    refine a_iast rfl rfl (by decide) rfl dX2_change_97 ⟨(h.2.2.2.2 e2).1, ?_⟩
    exact a_vret dX2_change_98 (h.2.2.2.2 e2).2
set_option maxRecDepth 10000 in
theorem sg_X2_everybody_0 {d : Nat} {sx : Option (List Int)}  (mem : AMem) (Q : Option AV → AMem → Prop) (h : Q (some (vi (w32 ((shl32 1 (mem 2 0 5)) - 1)))) mem) : Y cX2_everybody 1 RX2 (d + 1) sx 0 [some (vr 2 0)] [] mem Q := by
  refine a_iconst (k := 1) dX2_everybody_0 (n_lit (by decide)) ?_
  refine a_aload_n dX2_everybody_1 rfl rfl ?_
  refine gf_X2_31 (x := mem 2 0 5) rfl dX2_everybody_2 ?_
  refine a_ishl dX2_everybody_5 ?_
  refine a_iconst (k := 1) dX2_everybody_6 (n_lit (by decide)) ?_
  refine a_isub dX2_everybody_7 ?_
  exact a_iret dX2_everybody_8 h
set_option maxRecDepth 10000 in
theorem sg_X2_letIn_0 {d : Nat} {sx : Option (List Int)} (a1 : Int) (mem : AMem) (Q : Option AV → AMem → Prop) (h : Q none (upM (upM mem 2 0 4 a1) 2 0 6 (w32 ((mem 2 0 6) + 1)))) : Y cX2_letIn 2 RX2 (d + 1) sx 0 [some (vr 2 0), some (vi a1)] [] mem Q := by
  refine a_aload_n dX2_letIn_0 rfl rfl ?_
  refine a_iload_n dX2_letIn_1 rfl rfl ?_
  refine pf_X2_35 dX2_letIn_2 ?_
  refine a_aload_n dX2_letIn_5 rfl rfl ?_
  refine a_dup dX2_letIn_6 rfl ?_
  refine gf_X2_38 (x := mem 2 0 6) rfl dX2_letIn_7 ?_
  refine a_iconst (k := 1) dX2_letIn_10 (n_lit (by decide)) ?_
  refine a_iadd dX2_letIn_11 ?_
  refine pf_X2_38 dX2_letIn_12 ?_
  exact a_vret dX2_letIn_15 h
set_option maxRecDepth 10000 in
theorem sg_X2_follow_0 {d : Nat} {sx : Option (List Int)} (j1 : Nat) (mem : AMem) (Q : Option AV → AMem → Prop) (h : 0 ≤ mem 2 0 7 ∧ (Q (some (vr 3 (Int.toNat (mem 2 0 7)))) (upM (upM mem 2 0 7 ((j1 : Nat) : Int)) 2 0 6 (w32 ((mem 2 0 6) + 1))))) : Y cX2_follow 3 RX2 (d + 1) sx 0 [some (vr 2 0), some (vr 3 j1), none] [] mem Q := by
  refine a_aload_n dX2_follow_0 rfl rfl ?_
  refine gf_X2_27 (x := mem 2 0 7) rfl dX2_follow_1 ⟨h.1, ?_⟩
  refine a_astore_n dX2_follow_4 rfl (by decide) rfl ?_
  refine a_aload_n dX2_follow_5 rfl rfl ?_
  refine a_aload_n dX2_follow_6 rfl rfl ?_
  refine pf_X2_27 dX2_follow_7 ?_
  refine a_aload_n dX2_follow_10 rfl rfl ?_
  refine a_dup dX2_follow_11 rfl ?_
  refine gf_X2_38 (x := mem 2 0 6) rfl dX2_follow_12 ?_
  refine a_iconst (k := 1) dX2_follow_15 (n_lit (by decide)) ?_
  refine a_iadd dX2_follow_16 ?_
  refine pf_X2_38 dX2_follow_17 ?_
  refine a_aload_n dX2_follow_20 rfl rfl ?_
  exact a_aret dX2_follow_21 h.2
set_option maxRecDepth 10000 in
theorem sg_X2_pointsForCatch_0 {d : Nat} {sx : Option (List Int)}  (mem : AMem) (Q : Option AV → AMem → Prop) (h : MtX yJ6_bitCount_0f7a4 cJ6_bitCount_0f7a4 1 (some .int) d [vi (mem 2 0 4)] mem (fun r m1 => ∃ x3 : Int, r = some (vi x3) ∧ (((3 : Int) < x3 → (Q (some (vi 1)) m1)) ∧ (¬ (3 : Int) < x3 → (Q (some (vi 2)) m1))))) : Y cX2_pointsForCatch 1 RX2 (d + 1) sx 0 [some (vr 2 0)] [] mem Q := by
  refine a_aload_n dX2_pointsForCatch_0 rfl rfl ?_
  refine gf_X2_35 (x := mem 2 0 4) rfl dX2_pointsForCatch_1 ?_
  refine iv_X2_45 dX2_pointsForCatch_4 (Nat.le_of_ble_eq_true rfl) (MtX_mono h (fun r m1 hq => ?_))
  obtain ⟨x3, rfl, h2⟩ := hq
  refine ⟨x3, rfl, ?_⟩
  refine a_iconst (k := 3) dX2_pointsForCatch_7 (n_lit (by decide)) ?_
  refine a_icmp_gt (tgt := 15) dX2_pointsForCatch_8 (by decide) ⟨fun c4 => ?_, fun c4 => ?_⟩
  · refine a_iconst (k := 1) dX2_pointsForCatch_15 (n_lit (by decide)) ?_
    exact a_iret dX2_pointsForCatch_16 (h2.1 c4)
  · refine a_iconst (k := 2) dX2_pointsForCatch_11 (n_lit (by decide)) ?_
    refine a_goto (tgt := 16) dX2_pointsForCatch_12 (by decide) ?_
    exact a_iret dX2_pointsForCatch_16 (h2.2 c4)
set_option maxRecDepth 10000 in
theorem sg_X2_corners_0 {d : Nat} {sx : Option (List Int)}  (mem : AMem) (Q : Option AV → AMem → Prop) (h : Y cX2_corners 3 RX2 (d + 1) sx 4 [some (vr 2 0), some (vi 0), some (vi 0)] [] mem Q) : Y cX2_corners 3 RX2 (d + 1) sx 0 [some (vr 2 0), none, none] [] mem Q := by
  refine a_iconst (k := 0) dX2_corners_0 (n_lit (by decide)) ?_
  refine a_istore_n dX2_corners_1 rfl (by decide) rfl ?_
  refine a_iconst (k := 0) dX2_corners_2 (n_lit (by decide)) ?_
  refine a_istore_n dX2_corners_3 rfl (by decide) rfl ?_
  exact h
set_option maxRecDepth 10000 in
theorem sg_X2_corners_4 {d : Nat} {sx : Option (List Int)} (a1 : Int) (a2 : Int) (mem : AMem) (Q : Option AV → AMem → Prop) (h : ((mem 2 0 5) ≤ a2 → (Q (some (vi a1)) mem)) ∧ (¬ (mem 2 0 5) ≤ a2 → (MtX yX2_isInside cX2_isInside 2 (some .boolean) d [vr 2 0, vi a2] mem (fun r m2 => ∃ x4 : Int, r = some (vi x4) ∧ ((x4 = (0 : Int) → (Y cX2_corners 3 RX2 (d + 1) sx 4 [some (vr 2 0), some (vi a1), some (vi (w32 (a2 + 1)))] [] m2 Q)) ∧ (¬ x4 = (0 : Int) → ((0 ≤ a2 ∧ a2 < 7) ∧ (((m2 300 0 a2) = (0 : Int) → (Y cX2_corners 3 RX2 (d + 1) sx 4 [some (vr 2 0), some (vi (or_32 a1 (shl32 1 a2))), some (vi (w32 (a2 + 1)))] [] m2 Q)) ∧ (¬ (m2 300 0 a2) = (0 : Int) → ((0 ≤ a2 ∧ a2 < 7) ∧ (((m2 300 0 a2) ≠ (8 : Int) → (Y cX2_corners 3 RX2 (d + 1) sx 4 [some (vr 2 0), some (vi a1), some (vi (w32 (a2 + 1)))] [] m2 Q)) ∧ ((m2 300 0 a2) = (8 : Int) → (Y cX2_corners 3 RX2 (d + 1) sx 4 [some (vr 2 0), some (vi (or_32 a1 (shl32 1 a2))), some (vi (w32 (a2 + 1)))] [] m2 Q))))))))))))) : Y cX2_corners 3 RX2 (d + 1) sx 4 [some (vr 2 0), some (vi a1), some (vi a2)] [] mem Q := by
  refine a_iload_n dX2_corners_4 rfl rfl ?_
  refine a_aload_n dX2_corners_5 rfl rfl ?_
  refine gf_X2_31 (x := mem 2 0 5) rfl dX2_corners_6 ?_
  refine a_icmp_ge (tgt := 52) dX2_corners_9 (by decide) ⟨fun c1 => ?_, fun c1 => ?_⟩
  · refine a_iload_n dX2_corners_52 rfl rfl ?_
    exact a_iret dX2_corners_53 (h.1 c1)
  · refine a_aload_n dX2_corners_12 rfl rfl ?_
    refine a_iload_n dX2_corners_13 rfl rfl ?_
    refine iv_X2_51 dX2_corners_14 (Nat.le_of_ble_eq_true rfl) (MtX_mono (h.2 c1) (fun r m2 hq => ?_))
    obtain ⟨x4, rfl, h3⟩ := hq
    refine ⟨x4, rfl, ?_⟩
    refine a_if_eq (tgt := 46) dX2_corners_17 (by decide) ⟨fun c5 => ?_, fun c5 => ?_⟩
    · refine a_iinc dX2_corners_46 rfl (by decide) rfl ?_
      refine a_goto (tgt := 4) dX2_corners_49 (by decide) ?_
      exact (h3.1 c5)
    · refine a_aload_n dX2_corners_20 rfl rfl ?_
      refine gf_X2_9 dX2_corners_21 ?_
      refine a_iload_n dX2_corners_24 rfl rfl ?_
      refine a_iald rfl rfl (by decide) rfl dX2_corners_25 ⟨(h3.2 c5).1, ?_⟩
      refine a_if_eq (tgt := 40) dX2_corners_26 (by decide) ⟨fun c6 => ?_, fun c6 => ?_⟩
      · refine a_iload_n dX2_corners_40 rfl rfl ?_
        refine a_iconst (k := 1) dX2_corners_41 (n_lit (by decide)) ?_
        refine a_iload_n dX2_corners_42 rfl rfl ?_
        refine a_ishl dX2_corners_43 ?_
        refine a_ior dX2_corners_44 ?_
        refine a_istore_n dX2_corners_45 rfl (by decide) rfl ?_
        refine a_iinc dX2_corners_46 rfl (by decide) rfl ?_
        refine a_goto (tgt := 4) dX2_corners_49 (by decide) ?_
        exact ((h3.2 c5).2.1 c6)
      · refine a_aload_n dX2_corners_29 rfl rfl ?_
        refine gf_X2_9 dX2_corners_30 ?_
        refine a_iload_n dX2_corners_33 rfl rfl ?_
        refine a_iald rfl rfl (by decide) rfl dX2_corners_34 ⟨((h3.2 c5).2.2 c6).1, ?_⟩
        refine a_bipush (k := 8) dX2_corners_35 (by decide) (n_lit (by decide)) ?_
        refine a_icmp_ne (tgt := 46) dX2_corners_37 (by decide) ⟨fun c7 => ?_, fun c7 => ?_⟩
        · refine a_iinc dX2_corners_46 rfl (by decide) rfl ?_
          refine a_goto (tgt := 4) dX2_corners_49 (by decide) ?_
          exact (((h3.2 c5).2.2 c6).2.1 c7)
        · refine a_iload_n dX2_corners_40 rfl rfl ?_
          refine a_iconst (k := 1) dX2_corners_41 (n_lit (by decide)) ?_
          refine a_iload_n dX2_corners_42 rfl rfl ?_
          refine a_ishl dX2_corners_43 ?_
          refine a_ior dX2_corners_44 ?_
          refine a_istore_n dX2_corners_45 rfl (by decide) rfl ?_
          refine a_iinc dX2_corners_46 rfl (by decide) rfl ?_
          refine a_goto (tgt := 4) dX2_corners_49 (by decide) ?_
          exact (((h3.2 c5).2.2 c6).2.2 c7)
set_option maxRecDepth 10000 in
theorem sg_X2_alone_0 {d : Nat} {sx : Option (List Int)}  (mem : AMem) (Q : Option AV → AMem → Prop) (h : Y cX2_alone 3 RX2 (d + 1) sx 4 [some (vr 2 0), some (vi 0), some (vi 0)] [] mem Q) : Y cX2_alone 3 RX2 (d + 1) sx 0 [some (vr 2 0), none, none] [] mem Q := by
  refine a_iconst (k := 0) dX2_alone_0 (n_lit (by decide)) ?_
  refine a_istore_n dX2_alone_1 rfl (by decide) rfl ?_
  refine a_iconst (k := 0) dX2_alone_2 (n_lit (by decide)) ?_
  refine a_istore_n dX2_alone_3 rfl (by decide) rfl ?_
  exact h
set_option maxRecDepth 10000 in
theorem sg_X2_alone_4 {d : Nat} {sx : Option (List Int)} (a1 : Int) (a2 : Int) (mem : AMem) (Q : Option AV → AMem → Prop) (h : ((mem 2 0 5) ≤ a2 → (Q (some (vi a1)) mem)) ∧ (¬ (mem 2 0 5) ≤ a2 → (MtX yX2_isInside cX2_isInside 2 (some .boolean) d [vr 2 0, vi a2] mem (fun r m2 => ∃ x4 : Int, r = some (vi x4) ∧ ((x4 = (0 : Int) → (Y cX2_alone 3 RX2 (d + 1) sx 4 [some (vr 2 0), some (vi a1), some (vi (w32 (a2 + 1)))] [] m2 Q)) ∧ (¬ x4 = (0 : Int) → (MtX yX2_besides cX2_besides 5 (some .int) d [vr 2 0, vi a2] m2 (fun r m6 => ∃ x8 : Int, r = some (vi x8) ∧ ((x8 ≠ (shl32 1 a2) → (Y cX2_alone 3 RX2 (d + 1) sx 4 [some (vr 2 0), some (vi a1), some (vi (w32 (a2 + 1)))] [] m6 Q)) ∧ (x8 = (shl32 1 a2) → (Y cX2_alone 3 RX2 (d + 1) sx 4 [some (vr 2 0), some (vi (or_32 a1 (shl32 1 a2))), some (vi (w32 (a2 + 1)))] [] m6 Q))))))))))) : Y cX2_alone 3 RX2 (d + 1) sx 4 [some (vr 2 0), some (vi a1), some (vi a2)] [] mem Q := by
  refine a_iload_n dX2_alone_4 rfl rfl ?_
  refine a_aload_n dX2_alone_5 rfl rfl ?_
  refine gf_X2_31 (x := mem 2 0 5) rfl dX2_alone_6 ?_
  refine a_icmp_ge (tgt := 43) dX2_alone_9 (by decide) ⟨fun c1 => ?_, fun c1 => ?_⟩
  · refine a_iload_n dX2_alone_43 rfl rfl ?_
    exact a_iret dX2_alone_44 (h.1 c1)
  · refine a_aload_n dX2_alone_12 rfl rfl ?_
    refine a_iload_n dX2_alone_13 rfl rfl ?_
    refine iv_X2_51 dX2_alone_14 (Nat.le_of_ble_eq_true rfl) (MtX_mono (h.2 c1) (fun r m2 hq => ?_))
    obtain ⟨x4, rfl, h3⟩ := hq
    refine ⟨x4, rfl, ?_⟩
    refine a_if_eq (tgt := 37) dX2_alone_17 (by decide) ⟨fun c5 => ?_, fun c5 => ?_⟩
    · refine a_iinc dX2_alone_37 rfl (by decide) rfl ?_
      refine a_goto (tgt := 4) dX2_alone_40 (by decide) ?_
      exact (h3.1 c5)
    · refine a_aload_n dX2_alone_20 rfl rfl ?_
      refine a_iload_n dX2_alone_21 rfl rfl ?_
      refine iv_X2_54 dX2_alone_22 (Nat.le_of_ble_eq_true rfl) (MtX_mono (h3.2 c5) (fun r m6 hq => ?_))
      obtain ⟨x8, rfl, h7⟩ := hq
      refine ⟨x8, rfl, ?_⟩
      refine a_iconst (k := 1) dX2_alone_25 (n_lit (by decide)) ?_
      refine a_iload_n dX2_alone_26 rfl rfl ?_
      refine a_ishl dX2_alone_27 ?_
      refine a_icmp_ne (tgt := 37) dX2_alone_28 (by decide) ⟨fun c9 => ?_, fun c9 => ?_⟩
      · refine a_iinc dX2_alone_37 rfl (by decide) rfl ?_
        refine a_goto (tgt := 4) dX2_alone_40 (by decide) ?_
        exact (h7.1 c9)
      · refine a_iload_n dX2_alone_31 rfl rfl ?_
        refine a_iconst (k := 1) dX2_alone_32 (n_lit (by decide)) ?_
        refine a_iload_n dX2_alone_33 rfl rfl ?_
        refine a_ishl dX2_alone_34 ?_
        refine a_ior dX2_alone_35 ?_
        refine a_istore_n dX2_alone_36 rfl (by decide) rfl ?_
        refine a_iinc dX2_alone_37 rfl (by decide) rfl ?_
        refine a_goto (tgt := 4) dX2_alone_40 (by decide) ?_
        exact (h7.2 c9)
set_option maxRecDepth 10000 in
theorem sg_X2_chain_0 {d : Nat} {sx : Option (List Int)}  (mem : AMem) (Q : Option AV → AMem → Prop) (h : Y cX2_chain 3 RX2 (d + 1) sx 4 [some (vr 2 0), some (vi 0), some (vi 0)] [] mem Q) : Y cX2_chain 3 RX2 (d + 1) sx 0 [some (vr 2 0), none, none] [] mem Q := by
  refine a_iconst (k := 0) dX2_chain_0 (n_lit (by decide)) ?_
  refine a_istore_n dX2_chain_1 rfl (by decide) rfl ?_
  refine a_iconst (k := 0) dX2_chain_2 (n_lit (by decide)) ?_
  refine a_istore_n dX2_chain_3 rfl (by decide) rfl ?_
  exact h
set_option maxRecDepth 10000 in
theorem sg_X2_chain_4 {d : Nat} {sx : Option (List Int)} (a1 : Int) (a2 : Int) (mem : AMem) (Q : Option AV → AMem → Prop) (h : ((mem 2 0 5) ≤ a2 → (Q (some (vi a1)) mem)) ∧ (¬ (mem 2 0 5) ≤ a2 → (MtX yX2_isInside cX2_isInside 2 (some .boolean) d [vr 2 0, vi a2] mem (fun r m2 => ∃ x4 : Int, r = some (vi x4) ∧ ((x4 = (0 : Int) → (Y cX2_chain 3 RX2 (d + 1) sx 4 [some (vr 2 0), some (vi a1), some (vi (w32 (a2 + 1)))] [] m2 Q)) ∧ (¬ x4 = (0 : Int) → (MtX yX2_hangingTogether cX2_hangingTogether 5 (some .int) d [vr 2 0, vi a2] m2 (fun r m6 => ∃ x8 : Int, r = some (vi x8) ∧ (MtX yJ6_bitCount_0f7a4 cJ6_bitCount_0f7a4 1 (some .int) d [vi x8] m6 (fun r m9 => ∃ x11 : Int, r = some (vi x11) ∧ (Y cX2_chain 3 RX2 (d + 1) sx 4 [some (vr 2 0), some (vi (max a1 x11)), some (vi (w32 (a2 + 1)))] [] m9 Q))))))))))) : Y cX2_chain 3 RX2 (d + 1) sx 4 [some (vr 2 0), some (vi a1), some (vi a2)] [] mem Q := by
  refine a_iload_n dX2_chain_4 rfl rfl ?_
  refine a_aload_n dX2_chain_5 rfl rfl ?_
  refine gf_X2_31 (x := mem 2 0 5) rfl dX2_chain_6 ?_
  refine a_icmp_ge (tgt := 39) dX2_chain_9 (by decide) ⟨fun c1 => ?_, fun c1 => ?_⟩
  · refine a_iload_n dX2_chain_39 rfl rfl ?_
    exact a_iret dX2_chain_40 (h.1 c1)
  · refine a_aload_n dX2_chain_12 rfl rfl ?_
    refine a_iload_n dX2_chain_13 rfl rfl ?_
    refine iv_X2_51 dX2_chain_14 (Nat.le_of_ble_eq_true rfl) (MtX_mono (h.2 c1) (fun r m2 hq => ?_))
    obtain ⟨x4, rfl, h3⟩ := hq
    refine ⟨x4, rfl, ?_⟩
    refine a_if_eq (tgt := 33) dX2_chain_17 (by decide) ⟨fun c5 => ?_, fun c5 => ?_⟩
    · refine a_iinc dX2_chain_33 rfl (by decide) rfl ?_
      refine a_goto (tgt := 4) dX2_chain_36 (by decide) ?_
      exact (h3.1 c5)
    · refine a_iload_n dX2_chain_20 rfl rfl ?_
      refine a_aload_n dX2_chain_21 rfl rfl ?_
      refine a_iload_n dX2_chain_22 rfl rfl ?_
      refine iv_X2_57 dX2_chain_23 (Nat.le_of_ble_eq_true rfl) (MtX_mono (h3.2 c5) (fun r m6 hq => ?_))
      obtain ⟨x8, rfl, h7⟩ := hq
      refine ⟨x8, rfl, ?_⟩
      refine iv_X2_45 dX2_chain_26 (Nat.le_of_ble_eq_true rfl) (MtX_mono h7 (fun r m9 hq => ?_))
      obtain ⟨x11, rfl, h10⟩ := hq
      refine ⟨x11, rfl, ?_⟩
      refine a_max ml_X2_60 ms_Math_max mn_Math mc_Math_max (by omega) (Nat.le_of_ble_eq_true rfl) dX2_chain_29 ?_
      refine a_istore_n dX2_chain_32 rfl (by decide) rfl ?_
      refine a_iinc dX2_chain_33 rfl (by decide) rfl ?_
      refine a_goto (tgt := 4) dX2_chain_36 (by decide) ?_
      exact h10
set_option maxRecDepth 10000 in
theorem sg_X2_hangingTogether_0 {d : Nat} {sx : Option (List Int)} (a1 : Int) (mem : AMem) (Q : Option AV → AMem → Prop) (h : Y cX2_hangingTogether 5 RX2 (d + 1) sx 6 [some (vr 2 0), some (vi a1), some (vi (shl32 1 a1)), some (vi 0), none] [] mem Q) : Y cX2_hangingTogether 5 RX2 (d + 1) sx 0 [some (vr 2 0), some (vi a1), none, none, none] [] mem Q := by
  refine a_iconst (k := 1) dX2_hangingTogether_0 (n_lit (by decide)) ?_
  refine a_iload_n dX2_hangingTogether_1 rfl rfl ?_
  refine a_ishl dX2_hangingTogether_2 ?_
  refine a_istore_n dX2_hangingTogether_3 rfl (by decide) rfl ?_
  refine a_iconst (k := 0) dX2_hangingTogether_4 (n_lit (by decide)) ?_
  refine a_istore_n dX2_hangingTogether_5 rfl (by decide) rfl ?_
  exact h
set_option maxRecDepth 10000 in
theorem sg_X2_hangingTogether_6 {d : Nat} {sx : Option (List Int)} (a1 : Int) (a2 : Int) (a3 : Int) (mem : AMem) (Q : Option AV → AMem → Prop) (h : ((mem 2 0 5) ≤ a3 → (Q (some (vi a2)) mem)) ∧ (¬ (mem 2 0 5) ≤ a3 → (Y cX2_hangingTogether 5 RX2 (d + 1) sx 17 [some (vr 2 0), some (vi a1), some (vi a2), some (vi a3), some (vi 0)] [] mem Q))) : Y cX2_hangingTogether 5 RX2 (d + 1) sx 6 [some (vr 2 0), some (vi a1), some (vi a2), some (vi a3), none] [] mem Q := by
  refine a_iload_n dX2_hangingTogether_6 rfl rfl ?_
  refine a_aload_n dX2_hangingTogether_7 rfl rfl ?_
  refine gf_X2_31 (x := mem 2 0 5) rfl dX2_hangingTogether_8 ?_
  refine a_icmp_ge (tgt := 57) dX2_hangingTogether_11 (by decide) ⟨fun c1 => ?_, fun c1 => ?_⟩
  · refine a_iload_n dX2_hangingTogether_57 rfl rfl ?_
    exact a_iret dX2_hangingTogether_58 (h.1 c1)
  · refine a_iconst (k := 0) dX2_hangingTogether_14 (n_lit (by decide)) ?_
    refine a_istore dX2_hangingTogether_15 (by decide) rfl ?_
    exact (h.2 c1)
set_option maxRecDepth 10000 in
theorem sg_X2_hangingTogether_17 {d : Nat} {sx : Option (List Int)} (a1 : Int) (a2 : Int) (a3 : Int) (a4 : Int) (mem : AMem) (Q : Option AV → AMem → Prop) (h : ((mem 2 0 5) ≤ a4 → (Y cX2_hangingTogether 5 RX2 (d + 1) sx 6 [some (vr 2 0), some (vi a1), some (vi a2), some (vi (w32 (a3 + 1))), some (vi a4)] [] mem Q)) ∧ (¬ (mem 2 0 5) ≤ a4 → (((an32 (shr32 a2 a4) 1) ≠ (1 : Int) → (Y cX2_hangingTogether 5 RX2 (d + 1) sx 17 [some (vr 2 0), some (vi a1), some (vi a2), some (vi a3), some (vi (w32 (a4 + 1)))] [] mem Q)) ∧ ((an32 (shr32 a2 a4) 1) = (1 : Int) → (MtX yX2_besides cX2_besides 5 (some .int) d [vr 2 0, vi a4] mem (fun r m3 => ∃ x5 : Int, r = some (vi x5) ∧ (Y cX2_hangingTogether 5 RX2 (d + 1) sx 17 [some (vr 2 0), some (vi a1), some (vi (or_32 a2 x5)), some (vi a3), some (vi (w32 (a4 + 1)))] [] m3 Q))))))) : Y cX2_hangingTogether 5 RX2 (d + 1) sx 17 [some (vr 2 0), some (vi a1), some (vi a2), some (vi a3), some (vi a4)] [] mem Q := by
  refine a_iload dX2_hangingTogether_17 rfl ?_
  refine a_aload_n dX2_hangingTogether_19 rfl rfl ?_
  refine gf_X2_31 (x := mem 2 0 5) rfl dX2_hangingTogether_20 ?_
  refine a_icmp_ge (tgt := 51) dX2_hangingTogether_23 (by decide) ⟨fun c1 => ?_, fun c1 => ?_⟩
  · refine a_iinc dX2_hangingTogether_51 rfl (by decide) rfl ?_
    refine a_goto (tgt := 6) dX2_hangingTogether_54 (by decide) ?_
    exact (h.1 c1)
  · refine a_iload_n dX2_hangingTogether_26 rfl rfl ?_
    refine a_iload dX2_hangingTogether_27 rfl ?_
    refine a_ishr dX2_hangingTogether_29 ?_
    refine a_iconst (k := 1) dX2_hangingTogether_30 (n_lit (by decide)) ?_
    refine a_iand dX2_hangingTogether_31 ?_
    refine a_iconst (k := 1) dX2_hangingTogether_32 (n_lit (by decide)) ?_
    refine a_icmp_ne (tgt := 45) dX2_hangingTogether_33 (by decide) ⟨fun c2 => ?_, fun c2 => ?_⟩
    · refine a_iinc dX2_hangingTogether_45 rfl (by decide) rfl ?_
      refine a_goto (tgt := 17) dX2_hangingTogether_48 (by decide) ?_
      exact ((h.2 c1).1 c2)
    · refine a_iload_n dX2_hangingTogether_36 rfl rfl ?_
      refine a_aload_n dX2_hangingTogether_37 rfl rfl ?_
      refine a_iload dX2_hangingTogether_38 rfl ?_
      refine iv_X2_54 dX2_hangingTogether_40 (Nat.le_of_ble_eq_true rfl) (MtX_mono ((h.2 c1).2 c2) (fun r m3 hq => ?_))
      obtain ⟨x5, rfl, h4⟩ := hq
      refine ⟨x5, rfl, ?_⟩
      refine a_ior dX2_hangingTogether_43 ?_
      refine a_istore_n dX2_hangingTogether_44 rfl (by decide) rfl ?_
      refine a_iinc dX2_hangingTogether_45 rfl (by decide) rfl ?_
      refine a_goto (tgt := 17) dX2_hangingTogether_48 (by decide) ?_
      exact h4
set_option maxRecDepth 10000 in
theorem sg_X2_besides_0 {d : Nat} {sx : Option (List Int)} (a1 : Int) (mem : AMem) (Q : Option AV → AMem → Prop) (h : Y cX2_besides 5 RX2 (d + 1) sx 4 [some (vr 2 0), some (vi a1), some (vi 0), some (vi 0), none] [] mem Q) : Y cX2_besides 5 RX2 (d + 1) sx 0 [some (vr 2 0), some (vi a1), none, none, none] [] mem Q := by
  refine a_iconst (k := 0) dX2_besides_0 (n_lit (by decide)) ?_
  refine a_istore_n dX2_besides_1 rfl (by decide) rfl ?_
  refine a_iconst (k := 0) dX2_besides_2 (n_lit (by decide)) ?_
  refine a_istore_n dX2_besides_3 rfl (by decide) rfl ?_
  exact h
set_option maxRecDepth 10000 in
theorem sg_X2_besides_4 {d : Nat} {sx : Option (List Int)} (a1 : Int) (a2 : Int) (a3 : Int) (mem : AMem) (Q : Option AV → AMem → Prop) (h : ((mem 2 0 5) ≤ a3 → (Q (some (vi a2)) mem)) ∧ (¬ (mem 2 0 5) ≤ a3 → ((0 ≤ a3 ∧ a3 < 7) ∧ ((0 ≤ a1 ∧ a1 < 7) ∧ ((0 ≤ a3 ∧ a3 < 7) ∧ ((0 ≤ a1 ∧ a1 < 7) ∧ (MtX yX2_isInside cX2_isInside 2 (some .boolean) d [vr 2 0, vi a3] mem (fun r m2 => ∃ x4 : Int, r = some (vi x4) ∧ ((x4 = (0 : Int) → (Y cX2_besides 5 RX2 (d + 1) sx 4 [some (vr 2 0), some (vi a1), some (vi a2), some (vi (w32 (a3 + 1))), some (vi (w32 ((ab32 (w32 ((mem 300 0 a3) - (mem 300 0 a1)))) + (ab32 (w32 ((mem 301 0 a3) - (mem 301 0 a1)))))))] [] m2 Q)) ∧ (¬ x4 = (0 : Int) → (((1 : Int) < (w32 ((ab32 (w32 ((mem 300 0 a3) - (mem 300 0 a1)))) + (ab32 (w32 ((mem 301 0 a3) - (mem 301 0 a1)))))) → (Y cX2_besides 5 RX2 (d + 1) sx 4 [some (vr 2 0), some (vi a1), some (vi a2), some (vi (w32 (a3 + 1))), some (vi (w32 ((ab32 (w32 ((mem 300 0 a3) - (mem 300 0 a1)))) + (ab32 (w32 ((mem 301 0 a3) - (mem 301 0 a1)))))))] [] m2 Q)) ∧ (¬ (1 : Int) < (w32 ((ab32 (w32 ((mem 300 0 a3) - (mem 300 0 a1)))) + (ab32 (w32 ((mem 301 0 a3) - (mem 301 0 a1)))))) → (Y cX2_besides 5 RX2 (d + 1) sx 4 [some (vr 2 0), some (vi a1), some (vi (or_32 a2 (shl32 1 a3))), some (vi (w32 (a3 + 1))), some (vi (w32 ((ab32 (w32 ((mem 300 0 a3) - (mem 300 0 a1)))) + (ab32 (w32 ((mem 301 0 a3) - (mem 301 0 a1)))))))] [] m2 Q))))))))))))) : Y cX2_besides 5 RX2 (d + 1) sx 4 [some (vr 2 0), some (vi a1), some (vi a2), some (vi a3), none] [] mem Q := by
  refine a_iload_n dX2_besides_4 rfl rfl ?_
  refine a_aload_n dX2_besides_5 rfl rfl ?_
  refine gf_X2_31 (x := mem 2 0 5) rfl dX2_besides_6 ?_
  refine a_icmp_ge (tgt := 73) dX2_besides_9 (by decide) ⟨fun c1 => ?_, fun c1 => ?_⟩
  · refine a_iload_n dX2_besides_73 rfl rfl ?_
    exact a_iret dX2_besides_74 (h.1 c1)
  · refine a_aload_n dX2_besides_12 rfl rfl ?_
    refine gf_X2_9 dX2_besides_13 ?_
    refine a_iload_n dX2_besides_16 rfl rfl ?_
    refine a_iald rfl rfl (by decide) rfl dX2_besides_17 ⟨(h.2 c1).1, ?_⟩
    refine a_aload_n dX2_besides_18 rfl rfl ?_
    refine gf_X2_9 dX2_besides_19 ?_
    refine a_iload_n dX2_besides_22 rfl rfl ?_
    refine a_iald rfl rfl (by decide) rfl dX2_besides_23 ⟨(h.2 c1).2.1, ?_⟩
    refine a_isub dX2_besides_24 ?_
    refine a_abs ml_X2_66 ms_Math_abs mn_Math mc_Math_abs (by omega) (Nat.le_of_ble_eq_true rfl) dX2_besides_25 ?_
    refine a_aload_n dX2_besides_28 rfl rfl ?_
    refine gf_X2_15 dX2_besides_29 ?_
    refine a_iload_n dX2_besides_32 rfl rfl ?_
    refine a_iald rfl rfl (by decide) rfl dX2_besides_33 ⟨(h.2 c1).2.2.1, ?_⟩
    refine a_aload_n dX2_besides_34 rfl rfl ?_
    refine gf_X2_15 dX2_besides_35 ?_
    refine a_iload_n dX2_besides_38 rfl rfl ?_
    refine a_iald rfl rfl (by decide) rfl dX2_besides_39 ⟨(h.2 c1).2.2.2.1, ?_⟩
    refine a_isub dX2_besides_40 ?_
    refine a_abs ml_X2_66 ms_Math_abs mn_Math mc_Math_abs (by omega) (Nat.le_of_ble_eq_true rfl) dX2_besides_41 ?_
    refine a_iadd dX2_besides_44 ?_
    refine a_istore dX2_besides_45 (by decide) rfl ?_
    refine a_aload_n dX2_besides_47 rfl rfl ?_
    refine a_iload_n dX2_besides_48 rfl rfl ?_
    refine iv_X2_51 dX2_besides_49 (Nat.le_of_ble_eq_true rfl) (MtX_mono (h.2 c1).2.2.2.2 (fun r m2 hq => ?_))
    obtain ⟨x4, rfl, h3⟩ := hq
    refine ⟨x4, rfl, ?_⟩
    refine a_if_eq (tgt := 67) dX2_besides_52 (by decide) ⟨fun c5 => ?_, fun c5 => ?_⟩
    · refine a_iinc dX2_besides_67 rfl (by decide) rfl ?_
      refine a_goto (tgt := 4) dX2_besides_70 (by decide) ?_
      exact (h3.1 c5)
    · refine a_iload dX2_besides_55 rfl ?_
      refine a_iconst (k := 1) dX2_besides_57 (n_lit (by decide)) ?_
      refine a_icmp_gt (tgt := 67) dX2_besides_58 (by decide) ⟨fun c6 => ?_, fun c6 => ?_⟩
      · refine a_iinc dX2_besides_67 rfl (by decide) rfl ?_
        refine a_goto (tgt := 4) dX2_besides_70 (by decide) ?_
        exact ((h3.2 c5).1 c6)
      · refine a_iload_n dX2_besides_61 rfl rfl ?_
        refine a_iconst (k := 1) dX2_besides_62 (n_lit (by decide)) ?_
        refine a_iload_n dX2_besides_63 rfl rfl ?_
        refine a_ishl dX2_besides_64 ?_
        refine a_ior dX2_besides_65 ?_
        refine a_istore_n dX2_besides_66 rfl (by decide) rfl ?_
        refine a_iinc dX2_besides_67 rfl (by decide) rfl ?_
        refine a_goto (tgt := 4) dX2_besides_70 (by decide) ?_
        exact ((h3.2 c5).2 c6)
set_option maxRecDepth 10000 in
theorem sg_X3_clear_0 {d : Nat} {sx : Option (List Int)} (j0 : Nat) (mem : AMem) (Q : Option AV → AMem → Prop) (h : Q none (upM (upM mem 3 j0 3 0) 3 j0 4 0)) : Y cX3_clear 1 RX3 (d + 1) sx 0 [some (vr 3 j0)] [] mem Q := by
  refine a_aload_n dX3_clear_0 rfl rfl ?_
  refine a_iconst (k := 0) dX3_clear_1 (n_lit (by decide)) ?_
  refine pf_X3_19 dX3_clear_2 ?_
  refine a_aload_n dX3_clear_5 rfl rfl ?_
  refine a_iconst (k := 0) dX3_clear_6 (n_lit (by decide)) ?_
  refine pf_X3_23 (Or.inl rfl) dX3_clear_7 ?_
  exact a_vret dX3_clear_10 h
set_option maxRecDepth 10000 in
theorem sg_X3_isEmpty_0 {d : Nat} {sx : Option (List Int)} (j0 : Nat) (mem : AMem) (Q : Option AV → AMem → Prop) (h : ((mem 3 j0 3) ≠ (0 : Int) → (Q (some (vi 0)) mem)) ∧ ((mem 3 j0 3) = (0 : Int) → (Q (some (vi 1)) mem))) : Y cX3_isEmpty 1 RX3 (d + 1) sx 0 [some (vr 3 j0)] [] mem Q := by
  refine a_aload_n dX3_isEmpty_0 rfl rfl ?_
  refine gf_X3_19 (x := mem 3 j0 3) rfl dX3_isEmpty_1 ?_
  refine a_if_ne (tgt := 11) dX3_isEmpty_4 (by decide) ⟨fun c1 => ?_, fun c1 => ?_⟩
  · refine a_iconst (k := 0) dX3_isEmpty_11 (n_lit (by decide)) ?_
    exact a_iret dX3_isEmpty_12 (h.1 c1)
  · refine a_iconst (k := 1) dX3_isEmpty_7 (n_lit (by decide)) ?_
    refine a_goto (tgt := 12) dX3_isEmpty_8 (by decide) ?_
    exact a_iret dX3_isEmpty_12 (h.2 c1)
set_option maxRecDepth 10000 in
theorem sg_X3_add_0 {d : Nat} {sx : Option (List Int)} (j0 : Nat) (a1 : Int) (a2 : Int) (mem : AMem) (Q : Option AV → AMem → Prop) (h : ((128 : Int) ≤ (mem 3 j0 3) → (Q (some (vi (mem 3 j0 3))) mem)) ∧ (¬ (128 : Int) ≤ (mem 3 j0 3) → ((0 ≤ (mem 3 j0 3) ∧ (mem 3 j0 3) < 128) ∧ ((0 ≤ (mem 3 j0 3) ∧ (mem 3 j0 3) < 128) ∧ (Q (some (vi (mem 3 j0 3))) (upM (upM (upM mem 400 j0 (mem 3 j0 3) a1) 401 j0 (mem 3 j0 3) a2) 3 j0 3 (w32 ((mem 3 j0 3) + 1)))))))) : Y cX3_add 4 RX3 (d + 1) sx 0 [some (vr 3 j0), some (vi a1), some (vi a2), none] [] mem Q := by
  refine a_aload_n dX3_add_0 rfl rfl ?_
  refine gf_X3_19 (x := mem 3 j0 3) rfl dX3_add_1 ?_
  refine a_istore_n dX3_add_4 rfl (by decide) rfl ?_
  refine a_iload_n dX3_add_5 rfl rfl ?_
  refine a_sipush (k := 128) dX3_add_6 (by decide) (n_lit (by decide)) ?_
  refine a_icmp_ge (tgt := 36) dX3_add_9 (by decide) ⟨fun c1 => ?_, fun c1 => ?_⟩
  · refine a_iload_n dX3_add_36 rfl rfl ?_
    exact a_iret dX3_add_37 (h.1 c1)
  · refine a_aload_n dX3_add_12 rfl rfl ?_
    refine gf_X3_9 dX3_add_13 ?_
    refine a_iload_n dX3_add_16 rfl rfl ?_
    refine a_iload_n dX3_add_17 rfl rfl ?_
    refine a_iast rfl rfl (by decide) rfl dX3_add_18 ⟨(h.2 c1).1, ?_⟩
    refine a_aload_n dX3_add_19 rfl rfl ?_
    refine gf_X3_13 dX3_add_20 ?_
    refine a_iload_n dX3_add_23 rfl rfl ?_
    refine a_iload_n dX3_add_24 rfl rfl ?_
    refine a_iast rfl rfl (by decide) rfl dX3_add_25 ⟨(h.2 c1).2.1, ?_⟩
    refine a_aload_n dX3_add_26 rfl rfl ?_
    refine a_dup dX3_add_27 rfl ?_
    refine gf_X3_19 (x := mem 3 j0 3) (by simp [upM]) dX3_add_28 ?_
    refine a_iconst (k := 1) dX3_add_31 (n_lit (by decide)) ?_
    refine a_iadd dX3_add_32 ?_
    refine pf_X3_19 dX3_add_33 ?_
    refine a_iload_n dX3_add_36 rfl rfl ?_
    exact a_iret dX3_add_37 (h.2 c1).2.2
set_option maxRecDepth 10000 in
theorem sg_X3_skipToEndFrom_0 {d : Nat} {sx : Option (List Int)} (j0 : Nat) (a1 : Int) (mem : AMem) (Q : Option AV → AMem → Prop) (h : (a1 < (0 : Int) → (Q none mem)) ∧ (¬ a1 < (0 : Int) → (((128 : Int) ≤ a1 → (Q none mem)) ∧ (¬ (128 : Int) ≤ a1 → ((0 ≤ a1 ∧ a1 < 128) ∧ (Q none (upM mem 401 j0 a1 (mem 3 j0 3)))))))) : Y cX3_skipToEndFrom 2 RX3 (d + 1) sx 0 [some (vr 3 j0), some (vi a1)] [] mem Q := by
  refine a_iload_n dX3_skipToEndFrom_0 rfl rfl ?_
  refine a_if_lt (tgt := 21) dX3_skipToEndFrom_1 (by decide) ⟨fun c1 => ?_, fun c1 => ?_⟩
  · exact a_vret dX3_skipToEndFrom_21 (h.1 c1)
  · refine a_iload_n dX3_skipToEndFrom_4 rfl rfl ?_
    refine a_sipush (k := 128) dX3_skipToEndFrom_5 (by decide) (n_lit (by decide)) ?_
    refine a_icmp_ge (tgt := 21) dX3_skipToEndFrom_8 (by decide) ⟨fun c2 => ?_, fun c2 => ?_⟩
    · exact a_vret dX3_skipToEndFrom_21 ((h.2 c1).1 c2)
    · refine a_aload_n dX3_skipToEndFrom_11 rfl rfl ?_
      refine gf_X3_13 dX3_skipToEndFrom_12 ?_
      refine a_iload_n dX3_skipToEndFrom_15 rfl rfl ?_
      refine a_aload_n dX3_skipToEndFrom_16 rfl rfl ?_
      refine gf_X3_19 (x := mem 3 j0 3) rfl dX3_skipToEndFrom_17 ?_
      refine a_iast rfl rfl (by decide) rfl dX3_skipToEndFrom_20 ⟨((h.2 c1).2 c2).1, ?_⟩
      exact a_vret dX3_skipToEndFrom_21 ((h.2 c1).2 c2).2
set_option maxRecDepth 10000 in
theorem sg_X3_worth_0 {d : Nat} {sx : Option (List Int)} (j0 : Nat) (j1 : Nat) (mem : AMem) (Q : Option AV → AMem → Prop) (h : Y cX3_worth 6 RX3 (d + 1) sx 4 [some (vr 3 j0), some (vr 802 j1), some (vi 0), some (vi 0), none, none] [] mem Q) : Y cX3_worth 6 RX3 (d + 1) sx 0 [some (vr 3 j0), some (vr 802 j1), none, none, none, none] [] mem Q := by
  refine a_iconst (k := 0) dX3_worth_0 (n_lit (by decide)) ?_
  refine a_istore_n dX3_worth_1 rfl (by decide) rfl ?_
  refine a_iconst (k := 0) dX3_worth_2 (n_lit (by decide)) ?_
  refine a_istore_n dX3_worth_3 rfl (by decide) rfl ?_
  exact h
set_option maxRecDepth 10000 in
theorem sg_X3_worth_4 {d : Nat} {sx : Option (List Int)} (j0 : Nat) (j1 : Nat) (a2 : Int) (a3 : Int) (mem : AMem) (Q : Option AV → AMem → Prop) (h : ((mem 3 j0 3) ≤ a3 → (Q (some (vi 0)) mem)) ∧ (¬ (mem 3 j0 3) ≤ a3 → ((0 ≤ a3 ∧ a3 < 128) ∧ ((0 ≤ a3 ∧ a3 < 128) ∧ (((1 : Int) < (mem 400 j0 a3) → (((1 : Int) ≤ a2 → (((mem 400 j0 a3) ≠ (3 : Int) → (((mem 400 j0 a3) ≠ (2 : Int) → (((mem 400 j0 a3) ≠ (4 : Int) → (((mem 400 j0 a3) ≠ (5 : Int) → (((2 : Int) ≤ a2 → ((0 ≤ (w32 ((w32 (a2 + (-1))) - 1)) ∧ (w32 ((w32 (a2 + (-1))) - 1)) < 128) ∧ ((0 ≤ (w32 (a2 + (-1))) ∧ (w32 (a2 + (-1))) < 128) ∧ (MtX yX3_joined cX3_joined 3 (some .int) d [vi (w32 ((mem 400 j0 a3) - 6)), vi (mem 402 j0 (w32 ((w32 (a2 + (-1))) - 1))), vi (mem 402 j0 (w32 (a2 + (-1))))] mem (fun r m9 => ∃ x11 : Int, r = some (vi x11) ∧ ((0 ≤ (w32 ((w32 (a2 + (-1))) - 1)) ∧ (w32 ((w32 (a2 + (-1))) - 1)) < 128) ∧ (Y cX3_worth 6 RX3 (d + 1) sx 4 [some (vr 3 j0), some (vr 802 j1), some (vi (w32 (a2 + (-1)))), some (vi (w32 (a3 + 1))), some (vi (mem 400 j0 a3)), some (vi (mem 401 j0 a3))] [] (upM m9 402 j0 (w32 ((w32 (a2 + (-1))) - 1)) x11) Q))))))) ∧ (¬ (2 : Int) ≤ a2 → (Q (some (vi 0)) mem)))) ∧ ((mem 400 j0 a3) = (5 : Int) → ((0 ≤ (w32 (a2 - 1)) ∧ (w32 (a2 - 1)) < 128) ∧ ((0 ≤ (w32 (a2 - 1)) ∧ (w32 (a2 - 1)) < 128) ∧ (Y cX3_worth 6 RX3 (d + 1) sx 4 [some (vr 3 j0), some (vr 802 j1), some (vi a2), some (vi (w32 (a3 + 1))), some (vi (mem 400 j0 a3)), some (vi (mem 401 j0 a3))] [] (upM mem 402 j0 (w32 (a2 - 1)) (w32 (-(mem 402 j0 (w32 (a2 - 1)))))) Q)))))) ∧ ((mem 400 j0 a3) = (4 : Int) → ((0 ≤ (w32 (a2 - 1)) ∧ (w32 (a2 - 1)) < 128) ∧ (((mem 402 j0 (w32 (a2 - 1))) ≠ (0 : Int) → ((0 ≤ (w32 (a2 - 1)) ∧ (w32 (a2 - 1)) < 128) ∧ (Y cX3_worth 6 RX3 (d + 1) sx 4 [some (vr 3 j0), some (vr 802 j1), some (vi a2), some (vi (w32 (a3 + 1))), some (vi (mem 400 j0 a3)), some (vi (mem 401 j0 a3))] [] (upM mem 402 j0 (w32 (a2 - 1)) 0) Q))) ∧ ((mem 402 j0 (w32 (a2 - 1))) = (0 : Int) → ((0 ≤ (w32 (a2 - 1)) ∧ (w32 (a2 - 1)) < 128) ∧ (Y cX3_worth 6 RX3 (d + 1) sx 4 [some (vr 3 j0), some (vr 802 j1), some (vi a2), some (vi (w32 (a3 + 1))), some (vi (mem 400 j0 a3)), some (vi (mem 401 j0 a3))] [] (upM mem 402 j0 (w32 (a2 - 1)) 1) Q)))))))) ∧ ((mem 400 j0 a3) = (2 : Int) → ((0 ≤ (w32 (a2 + (-1))) ∧ (w32 (a2 + (-1))) < 128) ∧ (((mem 402 j0 (w32 (a2 + (-1)))) = (0 : Int) → (Y cX3_worth 6 RX3 (d + 1) sx 4 [some (vr 3 j0), some (vr 802 j1), some (vi (w32 (a2 + (-1)))), some (vi (max (w32 (a3 + 1)) (mem 401 j0 a3))), some (vi (mem 400 j0 a3)), some (vi (mem 401 j0 a3))] [] mem Q)) ∧ (¬ (mem 402 j0 (w32 (a2 + (-1)))) = (0 : Int) → (Y cX3_worth 6 RX3 (d + 1) sx 4 [some (vr 3 j0), some (vr 802 j1), some (vi (w32 (a2 + (-1)))), some (vi (w32 (a3 + 1))), some (vi (mem 400 j0 a3)), some (vi (mem 401 j0 a3))] [] mem Q))))))) ∧ ((mem 400 j0 a3) = (3 : Int) → ((0 ≤ (w32 (a2 - 1)) ∧ (w32 (a2 - 1)) < 128) ∧ (Q (some (vi (mem 402 j0 (w32 (a2 - 1))))) mem))))) ∧ (¬ (1 : Int) ≤ a2 → (Q (some (vi 0)) mem)))) ∧ (¬ (1 : Int) < (mem 400 j0 a3) → ((a2 < (128 : Int) → (((mem 400 j0 a3) ≠ (0 : Int) → ((0 ≤ (mem 401 j0 a3) ∧ (mem 401 j0 a3) < 6) ∧ ((0 ≤ a2 ∧ a2 < 128) ∧ (Y cX3_worth 6 RX3 (d + 1) sx 4 [some (vr 3 j0), some (vr 802 j1), some (vi (w32 (a2 + 1))), some (vi (w32 (a3 + 1))), some (vi (mem 400 j0 a3)), some (vi (mem 401 j0 a3))] [] (upM mem 402 j0 a2 (mem 802 j1 (mem 401 j0 a3))) Q)))) ∧ ((mem 400 j0 a3) = (0 : Int) → ((0 ≤ a2 ∧ a2 < 128) ∧ (Y cX3_worth 6 RX3 (d + 1) sx 4 [some (vr 3 j0), some (vr 802 j1), some (vi (w32 (a2 + 1))), some (vi (w32 (a3 + 1))), some (vi (mem 400 j0 a3)), some (vi (mem 401 j0 a3))] [] (upM mem 402 j0 a2 (mem 401 j0 a3)) Q))))) ∧ (¬ a2 < (128 : Int) → (Q (some (vi 0)) mem))))))))) : Y cX3_worth 6 RX3 (d + 1) sx 4 [some (vr 3 j0), some (vr 802 j1), some (vi a2), some (vi a3), none, none] [] mem Q := by
  refine a_iload_n dX3_worth_4 rfl rfl ?_
  refine a_aload_n dX3_worth_5 rfl rfl ?_
  refine gf_X3_19 (x := mem 3 j0 3) rfl dX3_worth_6 ?_
  refine a_icmp_ge (tgt := 228) dX3_worth_9 (by decide) ⟨fun c1 => ?_, fun c1 => ?_⟩
  · refine a_iconst (k := 0) dX3_worth_228 (n_lit (by decide)) ?_
    exact a_iret dX3_worth_229 (h.1 c1)
  · refine a_aload_n dX3_worth_12 rfl rfl ?_
    refine gf_X3_9 dX3_worth_13 ?_
    refine a_iload_n dX3_worth_16 rfl rfl ?_
    refine a_iald rfl rfl (by decide) rfl dX3_worth_17 ⟨(h.2 c1).1, ?_⟩
    refine a_istore dX3_worth_18 (by decide) rfl ?_
    refine a_aload_n dX3_worth_20 rfl rfl ?_
    refine gf_X3_13 dX3_worth_21 ?_
    refine a_iload_n dX3_worth_24 rfl rfl ?_
    refine a_iald rfl rfl (by decide) rfl dX3_worth_25 ⟨(h.2 c1).2.1, ?_⟩
    refine a_istore dX3_worth_26 (by decide) rfl ?_
    refine a_iinc dX3_worth_28 rfl (by decide) rfl ?_
    refine a_iload dX3_worth_31 rfl ?_
    refine a_iconst (k := 1) dX3_worth_33 (n_lit (by decide)) ?_
    refine a_icmp_gt (tgt := 72) dX3_worth_34 (by decide) ⟨fun c2 => ?_, fun c2 => ?_⟩
    · refine a_iload_n dX3_worth_72 rfl rfl ?_
      refine a_iconst (k := 1) dX3_worth_73 (n_lit (by decide)) ?_
      refine a_icmp_ge (tgt := 79) dX3_worth_74 (by decide) ⟨fun c3 => ?_, fun c3 => ?_⟩
      · refine a_iload dX3_worth_79 rfl ?_
        refine a_iconst (k := 3) dX3_worth_81 (n_lit (by decide)) ?_
        refine a_icmp_ne (tgt := 94) dX3_worth_82 (by decide) ⟨fun c4 => ?_, fun c4 => ?_⟩
        · refine a_iload dX3_worth_94 rfl ?_
          refine a_iconst (k := 2) dX3_worth_96 (n_lit (by decide)) ?_
          refine a_icmp_ne (tgt := 126) dX3_worth_97 (by decide) ⟨fun c5 => ?_, fun c5 => ?_⟩
          · refine a_iload dX3_worth_126 rfl ?_
            refine a_iconst (k := 4) dX3_worth_128 (n_lit (by decide)) ?_
            refine a_icmp_ne (tgt := 159) dX3_worth_129 (by decide) ⟨fun c6 => ?_, fun c6 => ?_⟩
            · refine a_iload dX3_worth_159 rfl ?_
              refine a_iconst (k := 5) dX3_worth_161 (n_lit (by decide)) ?_
              refine a_icmp_ne (tgt := 185) dX3_worth_162 (by decide) ⟨fun c7 => ?_, fun c7 => ?_⟩
              · refine a_iload_n dX3_worth_185 rfl rfl ?_
                refine a_iconst (k := 2) dX3_worth_186 (n_lit (by decide)) ?_
                refine a_icmp_ge (tgt := 192) dX3_worth_187 (by decide) ⟨fun c8 => ?_, fun c8 => ?_⟩
                · refine a_iinc dX3_worth_192 rfl (by decide) rfl ?_
                  refine a_aload_n dX3_worth_195 rfl rfl ?_
                  refine gf_X3_16 dX3_worth_196 ?_
                  refine a_iload_n dX3_worth_199 rfl rfl ?_
                  refine a_iconst (k := 1) dX3_worth_200 (n_lit (by decide)) ?_
                  refine a_isub dX3_worth_201 ?_
                  refine a_iload dX3_worth_202 rfl ?_
                  refine a_bipush (k := 6) dX3_worth_204 (by decide) (n_lit (by decide)) ?_
                  refine a_isub dX3_worth_206 ?_
                  refine a_aload_n dX3_worth_207 rfl rfl ?_
                  refine gf_X3_16 dX3_worth_208 ?_
                  refine a_iload_n dX3_worth_211 rfl rfl ?_
                  refine a_iconst (k := 1) dX3_worth_212 (n_lit (by decide)) ?_
                  refine a_isub dX3_worth_213 ?_
                  refine a_iald rfl rfl (by decide) rfl dX3_worth_214 ⟨((((((((h.2 c1).2.2.1 c2).1 c3).1 c4).1 c5).1 c6).1 c7).1 c8).1, ?_⟩
                  refine a_aload_n dX3_worth_215 rfl rfl ?_
                  refine gf_X3_16 dX3_worth_216 ?_
                  refine a_iload_n dX3_worth_219 rfl rfl ?_
                  refine a_iald rfl rfl (by decide) rfl dX3_worth_220 ⟨((((((((h.2 c1).2.2.1 c2).1 c3).1 c4).1 c5).1 c6).1 c7).1 c8).2.1, ?_⟩
                  refine iv_X3_33 dX3_worth_221 (Nat.le_of_ble_eq_true rfl) (MtX_mono ((((((((h.2 c1).2.2.1 c2).1 c3).1 c4).1 c5).1 c6).1 c7).1 c8).2.2 (fun r m9 hq => ?_))
                  obtain ⟨x11, rfl, h10⟩ := hq
                  refine ⟨x11, rfl, ?_⟩
                  refine a_iast rfl rfl (by decide) rfl dX3_worth_224 ⟨h10.1, ?_⟩
                  refine a_goto (tgt := 4) dX3_worth_225 (by decide) ?_
                  exact h10.2
                · refine a_iconst (k := 0) dX3_worth_190 (n_lit (by decide)) ?_
                  exact a_iret dX3_worth_191 ((((((((h.2 c1).2.2.1 c2).1 c3).1 c4).1 c5).1 c6).1 c7).2 c8)
              · refine a_aload_n dX3_worth_165 rfl rfl ?_
                refine gf_X3_16 dX3_worth_166 ?_
                refine a_iload_n dX3_worth_169 rfl rfl ?_
                refine a_iconst (k := 1) dX3_worth_170 (n_lit (by decide)) ?_
                refine a_isub dX3_worth_171 ?_
                refine a_aload_n dX3_worth_172 rfl rfl ?_
                refine gf_X3_16 dX3_worth_173 ?_
                refine a_iload_n dX3_worth_176 rfl rfl ?_
                refine a_iconst (k := 1) dX3_worth_177 (n_lit (by decide)) ?_
                refine a_isub dX3_worth_178 ?_
                refine a_iald rfl rfl (by decide) rfl dX3_worth_179 ⟨(((((((h.2 c1).2.2.1 c2).1 c3).1 c4).1 c5).1 c6).2 c7).1, ?_⟩
                refine a_ineg dX3_worth_180 ?_
                refine a_iast rfl rfl (by decide) rfl dX3_worth_181 ⟨(((((((h.2 c1).2.2.1 c2).1 c3).1 c4).1 c5).1 c6).2 c7).2.1, ?_⟩
                refine a_goto (tgt := 225) dX3_worth_182 (by decide) ?_
                refine a_goto (tgt := 4) dX3_worth_225 (by decide) ?_
                exact (((((((h.2 c1).2.2.1 c2).1 c3).1 c4).1 c5).1 c6).2 c7).2.2
            · refine a_aload_n dX3_worth_132 rfl rfl ?_
              refine gf_X3_16 dX3_worth_133 ?_
              refine a_iload_n dX3_worth_136 rfl rfl ?_
              refine a_iconst (k := 1) dX3_worth_137 (n_lit (by decide)) ?_
              refine a_isub dX3_worth_138 ?_
              refine a_aload_n dX3_worth_139 rfl rfl ?_
              refine gf_X3_16 dX3_worth_140 ?_
              refine a_iload_n dX3_worth_143 rfl rfl ?_
              refine a_iconst (k := 1) dX3_worth_144 (n_lit (by decide)) ?_
              refine a_isub dX3_worth_145 ?_
              refine a_iald rfl rfl (by decide) rfl dX3_worth_146 ⟨((((((h.2 c1).2.2.1 c2).1 c3).1 c4).1 c5).2 c6).1, ?_⟩
              refine a_if_ne (tgt := 154) dX3_worth_147 (by decide) ⟨fun c12 => ?_, fun c12 => ?_⟩
              · refine a_iconst (k := 0) dX3_worth_154 (n_lit (by decide)) ?_
                refine a_iast rfl rfl (by decide) rfl dX3_worth_155 ⟨(((((((h.2 c1).2.2.1 c2).1 c3).1 c4).1 c5).2 c6).2.1 c12).1, ?_⟩
                refine a_goto (tgt := 225) dX3_worth_156 (by decide) ?_
                refine a_goto (tgt := 4) dX3_worth_225 (by decide) ?_
                exact (((((((h.2 c1).2.2.1 c2).1 c3).1 c4).1 c5).2 c6).2.1 c12).2
              · refine a_iconst (k := 1) dX3_worth_150 (n_lit (by decide)) ?_
                refine a_goto (tgt := 155) dX3_worth_151 (by decide) ?_
                refine a_iast rfl rfl (by decide) rfl dX3_worth_155 ⟨(((((((h.2 c1).2.2.1 c2).1 c3).1 c4).1 c5).2 c6).2.2 c12).1, ?_⟩
                refine a_goto (tgt := 225) dX3_worth_156 (by decide) ?_
                refine a_goto (tgt := 4) dX3_worth_225 (by decide) ?_
                exact (((((((h.2 c1).2.2.1 c2).1 c3).1 c4).1 c5).2 c6).2.2 c12).2
          · refine a_iinc dX3_worth_100 rfl (by decide) rfl ?_
            refine a_aload_n dX3_worth_103 rfl rfl ?_
            refine gf_X3_16 dX3_worth_104 ?_
            refine a_iload_n dX3_worth_107 rfl rfl ?_
            refine a_iald rfl rfl (by decide) rfl dX3_worth_108 ⟨(((((h.2 c1).2.2.1 c2).1 c3).1 c4).2 c5).1, ?_⟩
            refine a_if_eq (tgt := 116) dX3_worth_109 (by decide) ⟨fun c13 => ?_, fun c13 => ?_⟩
            · refine a_iload_n dX3_worth_116 rfl rfl ?_
              refine a_iload dX3_worth_117 rfl ?_
              refine a_max ml_X3_27 ms_Math_max mn_Math mc_Math_max (by omega) (Nat.le_of_ble_eq_true rfl) dX3_worth_119 ?_
              refine a_istore_n dX3_worth_122 rfl (by decide) rfl ?_
              refine a_goto (tgt := 225) dX3_worth_123 (by decide) ?_
              refine a_goto (tgt := 4) dX3_worth_225 (by decide) ?_
              exact ((((((h.2 c1).2.2.1 c2).1 c3).1 c4).2 c5).2.1 c13)
            · refine a_iload_n dX3_worth_112 rfl rfl ?_
              refine a_goto (tgt := 122) dX3_worth_113 (by decide) ?_
              refine a_istore_n dX3_worth_122 rfl (by decide) rfl ?_
              refine a_goto (tgt := 225) dX3_worth_123 (by decide) ?_
              refine a_goto (tgt := 4) dX3_worth_225 (by decide) ?_
              exact ((((((h.2 c1).2.2.1 c2).1 c3).1 c4).2 c5).2.2 c13)
        · refine a_aload_n dX3_worth_85 rfl rfl ?_
          refine gf_X3_16 dX3_worth_86 ?_
          refine a_iload_n dX3_worth_89 rfl rfl ?_
          refine a_iconst (k := 1) dX3_worth_90 (n_lit (by decide)) ?_
          refine a_isub dX3_worth_91 ?_
          refine a_iald rfl rfl (by decide) rfl dX3_worth_92 ⟨((((h.2 c1).2.2.1 c2).1 c3).2 c4).1, ?_⟩
          exact a_iret dX3_worth_93 ((((h.2 c1).2.2.1 c2).1 c3).2 c4).2
      · refine a_iconst (k := 0) dX3_worth_77 (n_lit (by decide)) ?_
        exact a_iret dX3_worth_78 (((h.2 c1).2.2.1 c2).2 c3)
    · refine a_iload_n dX3_worth_37 rfl rfl ?_
      refine a_sipush (k := 128) dX3_worth_38 (by decide) (n_lit (by decide)) ?_
      refine a_icmp_lt (tgt := 46) dX3_worth_41 (by decide) ⟨fun c14 => ?_, fun c14 => ?_⟩
      · refine a_aload_n dX3_worth_46 rfl rfl ?_
        refine gf_X3_16 dX3_worth_47 ?_
        refine a_iload_n dX3_worth_50 rfl rfl ?_
        refine a_iload dX3_worth_51 rfl ?_
        refine a_if_ne (tgt := 61) dX3_worth_53 (by decide) ⟨fun c15 => ?_, fun c15 => ?_⟩
        · refine a_aload_n dX3_worth_61 rfl rfl ?_
          refine a_iload dX3_worth_62 rfl ?_
          refine a_iald rfl rfl (by decide) rfl dX3_worth_64 ⟨((((h.2 c1).2.2.2 c2).1 c14).1 c15).1, ?_⟩
          refine a_iast rfl rfl (by decide) rfl dX3_worth_65 ⟨((((h.2 c1).2.2.2 c2).1 c14).1 c15).2.1, ?_⟩
          refine a_iinc dX3_worth_66 rfl (by decide) rfl ?_
          refine a_goto (tgt := 225) dX3_worth_69 (by decide) ?_
          refine a_goto (tgt := 4) dX3_worth_225 (by decide) ?_
          exact ((((h.2 c1).2.2.2 c2).1 c14).1 c15).2.2
        · refine a_iload dX3_worth_56 rfl ?_
          refine a_goto (tgt := 65) dX3_worth_58 (by decide) ?_
          refine a_iast rfl rfl (by decide) rfl dX3_worth_65 ⟨((((h.2 c1).2.2.2 c2).1 c14).2 c15).1, ?_⟩
          refine a_iinc dX3_worth_66 rfl (by decide) rfl ?_
          refine a_goto (tgt := 225) dX3_worth_69 (by decide) ?_
          refine a_goto (tgt := 4) dX3_worth_225 (by decide) ?_
          exact ((((h.2 c1).2.2.2 c2).1 c14).2 c15).2
      · refine a_iconst (k := 0) dX3_worth_44 (n_lit (by decide)) ?_
        exact a_iret dX3_worth_45 (((h.2 c1).2.2.2 c2).2 c14)
set_option maxRecDepth 10000 in
theorem sg_X3_joined_0 {d : Nat} {sx : Option (List Int)} (a0 : Int) (a1 : Int) (a2 : Int) (mem : AMem) (Q : Option AV → AMem → Prop) (h : (a0 = 0 → ((a1 ≠ (0 : Int) → (Q (some (vi 1)) mem)) ∧ (a1 = (0 : Int) → ((a2 = (0 : Int) → (Q (some (vi 0)) mem)) ∧ (¬ a2 = (0 : Int) → (Q (some (vi 1)) mem)))))) ∧ (a0 = 1 → ((a1 = (0 : Int) → (Q (some (vi 0)) mem)) ∧ (¬ a1 = (0 : Int) → ((a2 = (0 : Int) → (Q (some (vi 0)) mem)) ∧ (¬ a2 = (0 : Int) → (Q (some (vi 1)) mem)))))) ∧ (a0 = 2 → ((a2 ≤ a1 → (Q (some (vi 0)) mem)) ∧ (¬ a2 ≤ a1 → (Q (some (vi 1)) mem)))) ∧ (a0 = 3 → ((a1 ≠ a2 → (Q (some (vi 0)) mem)) ∧ (a1 = a2 → (Q (some (vi 1)) mem)))) ∧ (a0 = 4 → ((a1 ≤ a2 → (Q (some (vi 0)) mem)) ∧ (¬ a1 ≤ a2 → (Q (some (vi 1)) mem)))) ∧ (a0 = 5 → (Q (some (vi (w32 (a1 + a2)))) mem)) ∧ (a0 = 6 → (Q (some (vi (w32 (a1 - a2)))) mem)) ∧ (a0 = 7 → (Q (some (vi (w32 (a1 * a2)))) mem)) ∧ (a0 = 8 → ((a2 ≠ (0 : Int) → (a2 ≠ 0 ∧ (Q (some (vi (w32 (Int.tdiv a1 a2)))) mem))) ∧ (a2 = (0 : Int) → (Q (some (vi 0)) mem)))) ∧ (¬ (0 ≤ a0 ∧ a0 ≤ 8) → ((a2 ≠ (0 : Int) → (a2 ≠ 0 ∧ (Q (some (vi (Int.tmod a1 a2))) mem))) ∧ (a2 = (0 : Int) → (Q (some (vi 0)) mem))))) : Y cX3_joined 3 RX3 (d + 1) sx 0 [some (vi a0), some (vi a1), some (vi a2)] [] mem Q := by
  refine a_iload_n dX3_joined_0 rfl rfl ?_
  refine a_table dX3_joined_1 (fun z => if z = 0 then 52 else if z = 1 then 66 else if z = 2 then 80 else if z = 3 then 91 else if z = 4 then 102 else if z = 5 then 113 else if z = 6 then 117 else if z = 7 then 121 else if z = 8 then 125 else 0) 137 (by decide) (by decide) (by decide) ⟨fun e1a e1b => ?_, fun e10 => ?_⟩
  · rcases (by omega : a0 = 0 ∨ a0 = 1 ∨ a0 = 2 ∨ a0 = 3 ∨ a0 = 4 ∨ a0 = 5 ∨ a0 = 6 ∨ a0 = 7 ∨ a0 = 8) with e1 | e1 | e1 | e1 | e1 | e1 | e1 | e1 | e1
    · refine Y_at (pc := 52) (by rw [e1]; rfl) ?_
      refine a_iload_n dX3_joined_52 rfl rfl ?_
      refine a_if_ne (tgt := 60) dX3_joined_53 (by decide) ⟨fun c2 => ?_, fun c2 => ?_⟩
      · refine a_iconst (k := 1) dX3_joined_60 (n_lit (by decide)) ?_
        refine a_goto (tgt := 65) dX3_joined_61 (by decide) ?_
        exact a_iret dX3_joined_65 ((h.1 e1).1 c2)
      · refine a_iload_n dX3_joined_56 rfl rfl ?_
        refine a_if_eq (tgt := 64) dX3_joined_57 (by decide) ⟨fun c3 => ?_, fun c3 => ?_⟩
        · refine a_iconst (k := 0) dX3_joined_64 (n_lit (by decide)) ?_
          exact a_iret dX3_joined_65 (((h.1 e1).2 c2).1 c3)
        · refine a_iconst (k := 1) dX3_joined_60 (n_lit (by decide)) ?_
          refine a_goto (tgt := 65) dX3_joined_61 (by decide) ?_
          exact a_iret dX3_joined_65 (((h.1 e1).2 c2).2 c3)
    · refine Y_at (pc := 66) (by rw [e1]; rfl) ?_
      refine a_iload_n dX3_joined_66 rfl rfl ?_
      refine a_if_eq (tgt := 78) dX3_joined_67 (by decide) ⟨fun c4 => ?_, fun c4 => ?_⟩
      · refine a_iconst (k := 0) dX3_joined_78 (n_lit (by decide)) ?_
        exact a_iret dX3_joined_79 ((h.2.1 e1).1 c4)
      · refine a_iload_n dX3_joined_70 rfl rfl ?_
        refine a_if_eq (tgt := 78) dX3_joined_71 (by decide) ⟨fun c5 => ?_, fun c5 => ?_⟩
        · refine a_iconst (k := 0) dX3_joined_78 (n_lit (by decide)) ?_
          exact a_iret dX3_joined_79 (((h.2.1 e1).2 c4).1 c5)
        · refine a_iconst (k := 1) dX3_joined_74 (n_lit (by decide)) ?_
          refine a_goto (tgt := 79) dX3_joined_75 (by decide) ?_
          exact a_iret dX3_joined_79 (((h.2.1 e1).2 c4).2 c5)
    · refine Y_at (pc := 80) (by rw [e1]; rfl) ?_
      refine a_iload_n dX3_joined_80 rfl rfl ?_
      refine a_iload_n dX3_joined_81 rfl rfl ?_
      refine a_icmp_ge (tgt := 89) dX3_joined_82 (by decide) ⟨fun c6 => ?_, fun c6 => ?_⟩
      · refine a_iconst (k := 0) dX3_joined_89 (n_lit (by decide)) ?_
        exact a_iret dX3_joined_90 ((h.2.2.1 e1).1 c6)
      · refine a_iconst (k := 1) dX3_joined_85 (n_lit (by decide)) ?_
        refine a_goto (tgt := 90) dX3_joined_86 (by decide) ?_
        exact a_iret dX3_joined_90 ((h.2.2.1 e1).2 c6)
    · refine Y_at (pc := 91) (by rw [e1]; rfl) ?_
      refine a_iload_n dX3_joined_91 rfl rfl ?_
      refine a_iload_n dX3_joined_92 rfl rfl ?_
      refine a_icmp_ne (tgt := 100) dX3_joined_93 (by decide) ⟨fun c7 => ?_, fun c7 => ?_⟩
      · refine a_iconst (k := 0) dX3_joined_100 (n_lit (by decide)) ?_
        exact a_iret dX3_joined_101 ((h.2.2.2.1 e1).1 c7)
      · refine a_iconst (k := 1) dX3_joined_96 (n_lit (by decide)) ?_
        refine a_goto (tgt := 101) dX3_joined_97 (by decide) ?_
        exact a_iret dX3_joined_101 ((h.2.2.2.1 e1).2 c7)
    · refine Y_at (pc := 102) (by rw [e1]; rfl) ?_
      refine a_iload_n dX3_joined_102 rfl rfl ?_
      refine a_iload_n dX3_joined_103 rfl rfl ?_
      refine a_icmp_le (tgt := 111) dX3_joined_104 (by decide) ⟨fun c8 => ?_, fun c8 => ?_⟩
      · refine a_iconst (k := 0) dX3_joined_111 (n_lit (by decide)) ?_
        exact a_iret dX3_joined_112 ((h.2.2.2.2.1 e1).1 c8)
      · refine a_iconst (k := 1) dX3_joined_107 (n_lit (by decide)) ?_
        refine a_goto (tgt := 112) dX3_joined_108 (by decide) ?_
        exact a_iret dX3_joined_112 ((h.2.2.2.2.1 e1).2 c8)
    · refine Y_at (pc := 113) (by rw [e1]; rfl) ?_
      refine a_iload_n dX3_joined_113 rfl rfl ?_
      refine a_iload_n dX3_joined_114 rfl rfl ?_
      refine a_iadd dX3_joined_115 ?_
      exact a_iret dX3_joined_116 (h.2.2.2.2.2.1 e1)
    · refine Y_at (pc := 117) (by rw [e1]; rfl) ?_
      refine a_iload_n dX3_joined_117 rfl rfl ?_
      refine a_iload_n dX3_joined_118 rfl rfl ?_
      refine a_isub dX3_joined_119 ?_
      exact a_iret dX3_joined_120 (h.2.2.2.2.2.2.1 e1)
    · refine Y_at (pc := 121) (by rw [e1]; rfl) ?_
      refine a_iload_n dX3_joined_121 rfl rfl ?_
      refine a_iload_n dX3_joined_122 rfl rfl ?_
      refine a_imul dX3_joined_123 ?_
      exact a_iret dX3_joined_124 (h.2.2.2.2.2.2.2.1 e1)
    · refine Y_at (pc := 125) (by rw [e1]; rfl) ?_
      refine a_iload_n dX3_joined_125 rfl rfl ?_
      refine a_if_ne (tgt := 133) dX3_joined_126 (by decide) ⟨fun c9 => ?_, fun c9 => ?_⟩
      · refine a_iload_n dX3_joined_133 rfl rfl ?_
        refine a_iload_n dX3_joined_134 rfl rfl ?_
        refine a_idiv dX3_joined_135 ((h.2.2.2.2.2.2.2.2.1 e1).1 c9).1 ?_
        exact a_iret dX3_joined_136 ((h.2.2.2.2.2.2.2.2.1 e1).1 c9).2
      · refine a_iconst (k := 0) dX3_joined_129 (n_lit (by decide)) ?_
        refine a_goto (tgt := 136) dX3_joined_130 (by decide) ?_
        exact a_iret dX3_joined_136 ((h.2.2.2.2.2.2.2.2.1 e1).2 c9)
  · refine a_iload_n dX3_joined_137 rfl rfl ?_
    refine a_if_ne (tgt := 145) dX3_joined_138 (by decide) ⟨fun c11 => ?_, fun c11 => ?_⟩
    · refine a_iload_n dX3_joined_145 rfl rfl ?_
      refine a_iload_n dX3_joined_146 rfl rfl ?_
      refine a_irem dX3_joined_147 ((h.2.2.2.2.2.2.2.2.2 e10).1 c11).1 ?_
      exact a_iret dX3_joined_148 ((h.2.2.2.2.2.2.2.2.2 e10).1 c11).2
    · refine a_iconst (k := 0) dX3_joined_141 (n_lit (by decide)) ?_
      refine a_goto (tgt := 148) dX3_joined_142 (by decide) ?_
      exact a_iret dX3_joined_148 ((h.2.2.2.2.2.2.2.2.2 e10).2 c11)
set_option maxRecDepth 10000 in
theorem sg_J6_bitCount_0f7a4_0 {d : Nat} {sx : Option (List Int)} (a0 : Int) (mem : AMem) (Q : Option AV → AMem → Prop) (h : Q (some (vi (an32 (w32 ((w32 ((an32 (w32 ((w32 ((an32 (w32 (a0 - (an32 (ushr32 a0 1) 1431655765))) 858993459) + (an32 (ushr32 (w32 (a0 - (an32 (ushr32 a0 1) 1431655765))) 2) 858993459))) + (ushr32 (w32 ((an32 (w32 (a0 - (an32 (ushr32 a0 1) 1431655765))) 858993459) + (an32 (ushr32 (w32 (a0 - (an32 (ushr32 a0 1) 1431655765))) 2) 858993459))) 4))) 252645135) + (ushr32 (an32 (w32 ((w32 ((an32 (w32 (a0 - (an32 (ushr32 a0 1) 1431655765))) 858993459) + (an32 (ushr32 (w32 (a0 - (an32 (ushr32 a0 1) 1431655765))) 2) 858993459))) + (ushr32 (w32 ((an32 (w32 (a0 - (an32 (ushr32 a0 1) 1431655765))) 858993459) + (an32 (ushr32 (w32 (a0 - (an32 (ushr32 a0 1) 1431655765))) 2) 858993459))) 4))) 252645135) 8))) + (ushr32 (w32 ((an32 (w32 ((w32 ((an32 (w32 (a0 - (an32 (ushr32 a0 1) 1431655765))) 858993459) + (an32 (ushr32 (w32 (a0 - (an32 (ushr32 a0 1) 1431655765))) 2) 858993459))) + (ushr32 (w32 ((an32 (w32 (a0 - (an32 (ushr32 a0 1) 1431655765))) 858993459) + (an32 (ushr32 (w32 (a0 - (an32 (ushr32 a0 1) 1431655765))) 2) 858993459))) 4))) 252645135) + (ushr32 (an32 (w32 ((w32 ((an32 (w32 (a0 - (an32 (ushr32 a0 1) 1431655765))) 858993459) + (an32 (ushr32 (w32 (a0 - (an32 (ushr32 a0 1) 1431655765))) 2) 858993459))) + (ushr32 (w32 ((an32 (w32 (a0 - (an32 (ushr32 a0 1) 1431655765))) 858993459) + (an32 (ushr32 (w32 (a0 - (an32 (ushr32 a0 1) 1431655765))) 2) 858993459))) 4))) 252645135) 8))) 16))) 63))) mem) : Y cJ6_bitCount_0f7a4 1 RJ6 (d + 1) sx 0 [some (vi a0)] [] mem Q := by
  refine a_iload_n dJ6_bitCount_0f7a4_0 rfl rfl ?_
  refine a_iload_n dJ6_bitCount_0f7a4_1 rfl rfl ?_
  refine a_iconst (k := 1) dJ6_bitCount_0f7a4_2 (n_lit (by decide)) ?_
  refine a_iushr dJ6_bitCount_0f7a4_3 ?_
  refine a_ldcw (k := 1431655765) co_J6_265 (n_lit (by decide)) dJ6_bitCount_0f7a4_4 ?_
  refine a_iand dJ6_bitCount_0f7a4_7 ?_
  refine a_isub dJ6_bitCount_0f7a4_8 ?_
  refine a_istore_n dJ6_bitCount_0f7a4_9 rfl (by decide) rfl ?_
  refine a_iload_n dJ6_bitCount_0f7a4_10 rfl rfl ?_
  refine a_ldcw (k := 858993459) co_J6_266 (n_lit (by decide)) dJ6_bitCount_0f7a4_11 ?_
  refine a_iand dJ6_bitCount_0f7a4_14 ?_
  refine a_iload_n dJ6_bitCount_0f7a4_15 rfl rfl ?_
  refine a_iconst (k := 2) dJ6_bitCount_0f7a4_16 (n_lit (by decide)) ?_
  refine a_iushr dJ6_bitCount_0f7a4_17 ?_
  refine a_ldcw (k := 858993459) co_J6_266 (n_lit (by decide)) dJ6_bitCount_0f7a4_18 ?_
  refine a_iand dJ6_bitCount_0f7a4_21 ?_
  refine a_iadd dJ6_bitCount_0f7a4_22 ?_
  refine a_istore_n dJ6_bitCount_0f7a4_23 rfl (by decide) rfl ?_
  refine a_iload_n dJ6_bitCount_0f7a4_24 rfl rfl ?_
  refine a_iload_n dJ6_bitCount_0f7a4_25 rfl rfl ?_
  refine a_iconst (k := 4) dJ6_bitCount_0f7a4_26 (n_lit (by decide)) ?_
  refine a_iushr dJ6_bitCount_0f7a4_27 ?_
  refine a_iadd dJ6_bitCount_0f7a4_28 ?_
  refine a_ldcw (k := 252645135) co_J6_267 (n_lit (by decide)) dJ6_bitCount_0f7a4_29 ?_
  refine a_iand dJ6_bitCount_0f7a4_32 ?_
  refine a_istore_n dJ6_bitCount_0f7a4_33 rfl (by decide) rfl ?_
  refine a_iload_n dJ6_bitCount_0f7a4_34 rfl rfl ?_
  refine a_iload_n dJ6_bitCount_0f7a4_35 rfl rfl ?_
  refine a_bipush (k := 8) dJ6_bitCount_0f7a4_36 (by decide) (n_lit (by decide)) ?_
  refine a_iushr dJ6_bitCount_0f7a4_38 ?_
  refine a_iadd dJ6_bitCount_0f7a4_39 ?_
  refine a_istore_n dJ6_bitCount_0f7a4_40 rfl (by decide) rfl ?_
  refine a_iload_n dJ6_bitCount_0f7a4_41 rfl rfl ?_
  refine a_iload_n dJ6_bitCount_0f7a4_42 rfl rfl ?_
  refine a_bipush (k := 16) dJ6_bitCount_0f7a4_43 (by decide) (n_lit (by decide)) ?_
  refine a_iushr dJ6_bitCount_0f7a4_45 ?_
  refine a_iadd dJ6_bitCount_0f7a4_46 ?_
  refine a_istore_n dJ6_bitCount_0f7a4_47 rfl (by decide) rfl ?_
  refine a_iload_n dJ6_bitCount_0f7a4_48 rfl rfl ?_
  refine a_bipush (k := 63) dJ6_bitCount_0f7a4_49 (by decide) (n_lit (by decide)) ?_
  refine a_iand dJ6_bitCount_0f7a4_51 ?_
  exact a_iret dJ6_bitCount_0f7a4_52 h
set_option maxRecDepth 10000 in
theorem sg_J7_fill_d0a16_0 {d : Nat} {sx : Option (List Int)} (j0 : Nat) (a1 : Int) (mem : AMem) (Q : Option AV → AMem → Prop) (h : Y cJ7_fill_d0a16 5 RJ7 (d + 1) sx 6 [some (vr 1100 j0), some (vl a1), none, some (vi 0), some (vi 60)] [] mem Q) : Y cJ7_fill_d0a16 5 RJ7 (d + 1) sx 0 [some (vr 1100 j0), some (vl a1), none, none, none] [] mem Q := by
  refine a_iconst (k := 0) dJ7_fill_d0a16_0 (n_lit (by decide)) ?_
  refine a_istore_n dJ7_fill_d0a16_1 rfl (by decide) rfl ?_
  refine a_aload_n dJ7_fill_d0a16_2 rfl rfl ?_
  refine a_alenL rfl rfl (by decide) rfl (n_lit (by decide)) dJ7_fill_d0a16_3 ?_
  refine a_istore dJ7_fill_d0a16_4 (by decide) rfl ?_
  exact h
set_option maxRecDepth 10000 in
theorem sg_J7_fill_d0a16_6 {d : Nat} {sx : Option (List Int)} (j0 : Nat) (a1 : Int) (a3 : Int) (a4 : Int) (mem : AMem) (Q : Option AV → AMem → Prop) (h : (a4 ≤ a3 → (Q none mem)) ∧ (¬ a4 ≤ a3 → ((0 ≤ a3 ∧ a3 < 60) ∧ (Y cJ7_fill_d0a16 5 RJ7 (d + 1) sx 6 [some (vr 1100 j0), some (vl a1), none, some (vi (w32 (a3 + 1))), some (vi a4)] [] (upM mem 1100 j0 a3 a1) Q)))) : Y cJ7_fill_d0a16 5 RJ7 (d + 1) sx 6 [some (vr 1100 j0), some (vl a1), none, some (vi a3), some (vi a4)] [] mem Q := by
  refine a_iload_n dJ7_fill_d0a16_6 rfl rfl ?_
  refine a_iload dJ7_fill_d0a16_7 rfl ?_
  refine a_icmp_ge (tgt := 22) dJ7_fill_d0a16_9 (by decide) ⟨fun c1 => ?_, fun c1 => ?_⟩
  · exact a_vret dJ7_fill_d0a16_22 (h.1 c1)
  · refine a_aload_n dJ7_fill_d0a16_12 rfl rfl ?_
    refine a_iload_n dJ7_fill_d0a16_13 rfl rfl ?_
    refine a_lload_n dJ7_fill_d0a16_14 rfl rfl ?_
    refine a_last rfl rfl (by decide) rfl dJ7_fill_d0a16_15 ⟨(h.2 c1).1, ?_⟩
    refine a_iinc dJ7_fill_d0a16_16 rfl (by decide) rfl ?_
    refine a_goto (tgt := 6) dJ7_fill_d0a16_19 (by decide) ?_
    exact (h.2 c1).2
set_option maxRecDepth 10000 in
theorem sg_J7_fill_53178_p_0 {d : Nat} {sx : Option (List Int)} (a1 : Int) (mem : AMem) (Q : Option AV → AMem → Prop) (h : Y cJ7_fill_53178 4 RJ7 (d + 1) sx 5 [some (vr 1001 0), some (vi a1), some (vi 0), some (vi 2)] [] mem Q) : Y cJ7_fill_53178 4 RJ7 (d + 1) sx 0 [some (vr 1001 0), some (vi a1), none, none] [] mem Q := by
  refine a_iconst (k := 0) dJ7_fill_53178_0 (n_lit (by decide)) ?_
  refine a_istore_n dJ7_fill_53178_1 rfl (by decide) rfl ?_
  refine a_aload_n dJ7_fill_53178_2 rfl rfl ?_
  refine a_alenI rfl rfl (by decide) rfl (n_lit (by decide)) dJ7_fill_53178_3 ?_
  refine a_istore_n dJ7_fill_53178_4 rfl (by decide) rfl ?_
  exact h
set_option maxRecDepth 10000 in
theorem sg_J7_fill_53178_p_5 {d : Nat} {sx : Option (List Int)} (a1 : Int) (a2 : Int) (a3 : Int) (mem : AMem) (Q : Option AV → AMem → Prop) (h : (a3 ≤ a2 → (Q none mem)) ∧ (¬ a3 ≤ a2 → ((0 ≤ a2 ∧ a2 < 2) ∧ (Y cJ7_fill_53178 4 RJ7 (d + 1) sx 5 [some (vr 1001 0), some (vi a1), some (vi (w32 (a2 + 1))), some (vi a3)] [] (upM mem 1001 0 a2 a1) Q)))) : Y cJ7_fill_53178 4 RJ7 (d + 1) sx 5 [some (vr 1001 0), some (vi a1), some (vi a2), some (vi a3)] [] mem Q := by
  refine a_iload_n dJ7_fill_53178_5 rfl rfl ?_
  refine a_iload_n dJ7_fill_53178_6 rfl rfl ?_
  refine a_icmp_ge (tgt := 20) dJ7_fill_53178_7 (by decide) ⟨fun c1 => ?_, fun c1 => ?_⟩
  · exact a_vret dJ7_fill_53178_20 (h.1 c1)
  · refine a_aload_n dJ7_fill_53178_10 rfl rfl ?_
    refine a_iload_n dJ7_fill_53178_11 rfl rfl ?_
    refine a_iload_n dJ7_fill_53178_12 rfl rfl ?_
    refine a_iast rfl rfl (by decide) rfl dJ7_fill_53178_13 ⟨(h.2 c1).1, ?_⟩
    refine a_iinc dJ7_fill_53178_14 rfl (by decide) rfl ?_
    refine a_goto (tgt := 5) dJ7_fill_53178_17 (by decide) ?_
    exact (h.2 c1).2
set_option maxRecDepth 10000 in
theorem sg_J7_fill_53178_o_0 {d : Nat} {sx : Option (List Int)} (a1 : Int) (mem : AMem) (Q : Option AV → AMem → Prop) (h : Y cJ7_fill_53178 4 RJ7 (d + 1) sx 5 [some (vr 1002 0), some (vi a1), some (vi 0), some (vi 2)] [] mem Q) : Y cJ7_fill_53178 4 RJ7 (d + 1) sx 0 [some (vr 1002 0), some (vi a1), none, none] [] mem Q := by
  refine a_iconst (k := 0) dJ7_fill_53178_0 (n_lit (by decide)) ?_
  refine a_istore_n dJ7_fill_53178_1 rfl (by decide) rfl ?_
  refine a_aload_n dJ7_fill_53178_2 rfl rfl ?_
  refine a_alenI rfl rfl (by decide) rfl (n_lit (by decide)) dJ7_fill_53178_3 ?_
  refine a_istore_n dJ7_fill_53178_4 rfl (by decide) rfl ?_
  exact h
set_option maxRecDepth 10000 in
theorem sg_J7_fill_53178_o_5 {d : Nat} {sx : Option (List Int)} (a1 : Int) (a2 : Int) (a3 : Int) (mem : AMem) (Q : Option AV → AMem → Prop) (h : (a3 ≤ a2 → (Q none mem)) ∧ (¬ a3 ≤ a2 → ((0 ≤ a2 ∧ a2 < 2) ∧ (Y cJ7_fill_53178 4 RJ7 (d + 1) sx 5 [some (vr 1002 0), some (vi a1), some (vi (w32 (a2 + 1))), some (vi a3)] [] (upM mem 1002 0 a2 a1) Q)))) : Y cJ7_fill_53178 4 RJ7 (d + 1) sx 5 [some (vr 1002 0), some (vi a1), some (vi a2), some (vi a3)] [] mem Q := by
  refine a_iload_n dJ7_fill_53178_5 rfl rfl ?_
  refine a_iload_n dJ7_fill_53178_6 rfl rfl ?_
  refine a_icmp_ge (tgt := 20) dJ7_fill_53178_7 (by decide) ⟨fun c1 => ?_, fun c1 => ?_⟩
  · exact a_vret dJ7_fill_53178_20 (h.1 c1)
  · refine a_aload_n dJ7_fill_53178_10 rfl rfl ?_
    refine a_iload_n dJ7_fill_53178_11 rfl rfl ?_
    refine a_iload_n dJ7_fill_53178_12 rfl rfl ?_
    refine a_iast rfl rfl (by decide) rfl dJ7_fill_53178_13 ⟨(h.2 c1).1, ?_⟩
    refine a_iinc dJ7_fill_53178_14 rfl (by decide) rfl ?_
    refine a_goto (tgt := 5) dJ7_fill_53178_17 (by decide) ?_
    exact (h.2 c1).2
