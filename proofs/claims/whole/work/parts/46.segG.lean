set_option maxRecDepth 10000 in
theorem sg_X12_goesOut_0 {d : Nat} {sx : Option (List Int)} (a1 : Int) (mem : AMem) (Q : Option AV → AMem → Prop) (h : (0 ≤ a1 ∧ a1 < 2) ∧ ((0 ≤ a1 ∧ a1 < 2) ∧ ((0 ≤ a1 ∧ a1 < 2) ∧ ((0 ≤ a1 ∧ a1 < 2) ∧ ((0 ≤ a1 ∧ a1 < 2) ∧ (MtX yX12_bitsOf cX12_bitsOf 3 (some .int) d [vi (w32 ((an32 (mem 1345 0 a1) (w32 (-(mem 1345 0 a1)))) - 1))] (upM mem 1345 0 a1 (xo32 (mem 1345 0 a1) (an32 (mem 1345 0 a1) (w32 (-(mem 1345 0 a1)))))) (fun r m1 => ∃ x3 : Int, r = some (vi x3) ∧ ((0 ≤ (w32 ((w32 (7 * a1)) + (mem 1346 0 a1))) ∧ (w32 ((w32 (7 * a1)) + (mem 1346 0 a1))) < 14) ∧ ((0 ≤ a1 ∧ a1 < 2) ∧ ((0 ≤ a1 ∧ a1 < 2) ∧ (Q none (upM (upM m1 1347 0 (w32 ((w32 (7 * a1)) + (mem 1346 0 a1))) x3) 1346 0 a1 (w32 ((m1 1346 0 a1) + 1)))))))))))))) : Y cX12_goesOut 3 RX12 (d + 1) sx 0 [some (vr 12 0), some (vi a1), none] [] mem Q := by
  refine a_aload_n dX12_goesOut_0 rfl rfl ?_
  refine gf_X12_81 dX12_goesOut_1 ?_
  refine a_iload_n dX12_goesOut_4 rfl rfl ?_
  refine a_iald rfl rfl (by decide) rfl dX12_goesOut_5 ⟨h.1, ?_⟩
  refine a_aload_n dX12_goesOut_6 rfl rfl ?_
  refine gf_X12_81 dX12_goesOut_7 ?_
  refine a_iload_n dX12_goesOut_10 rfl rfl ?_
  refine a_iald rfl rfl (by decide) rfl dX12_goesOut_11 ⟨h.2.1, ?_⟩
  refine a_ineg dX12_goesOut_12 ?_
  refine a_iand dX12_goesOut_13 ?_
  refine a_istore_n dX12_goesOut_14 rfl (by decide) rfl ?_
  refine a_aload_n dX12_goesOut_15 rfl rfl ?_
  refine gf_X12_81 dX12_goesOut_16 ?_
  refine a_iload_n dX12_goesOut_19 rfl rfl ?_
  refine a_dup2 dX12_goesOut_20 rfl rfl ?_
  refine a_iald rfl rfl (by decide) rfl dX12_goesOut_21 ⟨h.2.2.1, ?_⟩
  refine a_iload_n dX12_goesOut_22 rfl rfl ?_
  refine a_ixor dX12_goesOut_23 ?_
  refine a_iast rfl rfl (by decide) rfl dX12_goesOut_24 ⟨h.2.2.2.1, ?_⟩
  refine a_aload_n dX12_goesOut_25 rfl rfl ?_
  refine gf_X12_87 dX12_goesOut_26 ?_
  refine a_bipush (k := 7) dX12_goesOut_29 (by decide) (n_lit (by decide)) ?_
  refine a_iload_n dX12_goesOut_31 rfl rfl ?_
  refine a_imul dX12_goesOut_32 ?_
  refine a_aload_n dX12_goesOut_33 rfl rfl ?_
  refine gf_X12_84 dX12_goesOut_34 ?_
  refine a_iload_n dX12_goesOut_37 rfl rfl ?_
  refine a_iald rfl rfl (by decide) rfl dX12_goesOut_38 ⟨h.2.2.2.2.1, ?_⟩
  refine a_iadd dX12_goesOut_39 ?_
  refine a_iload_n dX12_goesOut_40 rfl rfl ?_
  refine a_iconst (k := 1) dX12_goesOut_41 (n_lit (by decide)) ?_
  refine a_isub dX12_goesOut_42 ?_
  refine iv_X12_279 dX12_goesOut_43 (Nat.le_of_ble_eq_true rfl) (MtX_mono h.2.2.2.2.2 (fun r m1 hq => ?_))
  obtain ⟨x3, rfl, h2⟩ := hq
  refine ⟨x3, rfl, ?_⟩
  refine a_iast rfl rfl (by decide) rfl dX12_goesOut_46 ⟨h2.1, ?_⟩
  refine a_aload_n dX12_goesOut_47 rfl rfl ?_
  refine gf_X12_84 dX12_goesOut_48 ?_
  refine a_iload_n dX12_goesOut_51 rfl rfl ?_
  refine a_dup2 dX12_goesOut_52 rfl rfl ?_
  refine a_iald rfl rfl (by decide) rfl dX12_goesOut_53 ⟨h2.2.1, ?_⟩
  refine a_iconst (k := 1) dX12_goesOut_54 (n_lit (by decide)) ?_
  refine a_iadd dX12_goesOut_55 ?_
  refine a_iast rfl rfl (by decide) rfl dX12_goesOut_56 ⟨h2.2.2.1, ?_⟩
  exact a_vret dX12_goesOut_57 h2.2.2.2
set_option maxRecDepth 10000 in
theorem sg_X12_comesBack_0 {d : Nat} {sx : Option (List Int)} (a1 : Int) (mem : AMem) (Q : Option AV → AMem → Prop) (h : (0 ≤ a1 ∧ a1 < 2) ∧ (((mem 1346 0 a1) ≠ (0 : Int) → ((0 ≤ a1 ∧ a1 < 2) ∧ ((0 ≤ (w32 (7 * a1)) ∧ (w32 (7 * a1)) < 14) ∧ ((0 ≤ a1 ∧ a1 < 2) ∧ ((0 ≤ a1 ∧ a1 < 2) ∧ ((0 ≤ a1 ∧ a1 < 2) ∧ (Y cX12_comesBack 3 RX12 (d + 1) sx 42 [some (vr 12 0), some (vi a1), some (vi 0)] [] (upM (upM mem 1345 0 a1 (or_32 (mem 1345 0 a1) (shl32 1 (mem 1347 0 (w32 (7 * a1)))))) 1346 0 a1 (w32 ((mem 1346 0 a1) - 1))) Q))))))) ∧ ((mem 1346 0 a1) = (0 : Int) → (Q none mem)))) : Y cX12_comesBack 3 RX12 (d + 1) sx 0 [some (vr 12 0), some (vi a1), none] [] mem Q := by
  refine a_aload_n dX12_comesBack_0 rfl rfl ?_
  refine gf_X12_84 dX12_comesBack_1 ?_
  refine a_iload_n dX12_comesBack_4 rfl rfl ?_
  refine a_iald rfl rfl (by decide) rfl dX12_comesBack_5 ⟨h.1, ?_⟩
  refine a_if_ne (tgt := 10) dX12_comesBack_6 (by decide) ⟨fun c1 => ?_, fun c1 => ?_⟩
  · refine a_aload_n dX12_comesBack_10 rfl rfl ?_
    refine gf_X12_81 dX12_comesBack_11 ?_
    refine a_iload_n dX12_comesBack_14 rfl rfl ?_
    refine a_dup2 dX12_comesBack_15 rfl rfl ?_
    refine a_iald rfl rfl (by decide) rfl dX12_comesBack_16 ⟨(h.2.1 c1).1, ?_⟩
    refine a_iconst (k := 1) dX12_comesBack_17 (n_lit (by decide)) ?_
    refine a_aload_n dX12_comesBack_18 rfl rfl ?_
    refine gf_X12_87 dX12_comesBack_19 ?_
    refine a_bipush (k := 7) dX12_comesBack_22 (by decide) (n_lit (by decide)) ?_
    refine a_iload_n dX12_comesBack_24 rfl rfl ?_
    refine a_imul dX12_comesBack_25 ?_
    refine a_iald rfl rfl (by decide) rfl dX12_comesBack_26 ⟨(h.2.1 c1).2.1, ?_⟩
    refine a_ishl dX12_comesBack_27 ?_
    refine a_ior dX12_comesBack_28 ?_
    refine a_iast rfl rfl (by decide) rfl dX12_comesBack_29 ⟨(h.2.1 c1).2.2.1, ?_⟩
    refine a_aload_n dX12_comesBack_30 rfl rfl ?_
    refine gf_X12_84 dX12_comesBack_31 ?_
    refine a_iload_n dX12_comesBack_34 rfl rfl ?_
    refine a_dup2 dX12_comesBack_35 rfl rfl ?_
    refine a_iald rfl rfl (by decide) rfl dX12_comesBack_36 ⟨(h.2.1 c1).2.2.2.1, ?_⟩
    refine a_iconst (k := 1) dX12_comesBack_37 (n_lit (by decide)) ?_
    refine a_isub dX12_comesBack_38 ?_
    refine a_iast rfl rfl (by decide) rfl dX12_comesBack_39 ⟨(h.2.1 c1).2.2.2.2.1, ?_⟩
    refine a_iconst (k := 0) dX12_comesBack_40 (n_lit (by decide)) ?_
    refine a_istore_n dX12_comesBack_41 rfl (by decide) rfl ?_
    exact (h.2.1 c1).2.2.2.2.2
  · exact a_vret dX12_comesBack_9 (h.2.2 c1)
set_option maxRecDepth 10000 in
theorem sg_X12_comesBack_42 {d : Nat} {sx : Option (List Int)} (a1 : Int) (a2 : Int) (mem : AMem) (Q : Option AV → AMem → Prop) (h : (0 ≤ a1 ∧ a1 < 2) ∧ (((mem 1346 0 a1) ≤ a2 → (Q none mem)) ∧ (¬ (mem 1346 0 a1) ≤ a2 → ((0 ≤ (w32 ((w32 ((w32 (7 * a1)) + a2)) + 1)) ∧ (w32 ((w32 ((w32 (7 * a1)) + a2)) + 1)) < 14) ∧ ((0 ≤ (w32 ((w32 (7 * a1)) + a2)) ∧ (w32 ((w32 (7 * a1)) + a2)) < 14) ∧ (Y cX12_comesBack 3 RX12 (d + 1) sx 42 [some (vr 12 0), some (vi a1), some (vi (w32 (a2 + 1)))] [] (upM mem 1347 0 (w32 ((w32 (7 * a1)) + a2)) (mem 1347 0 (w32 ((w32 ((w32 (7 * a1)) + a2)) + 1)))) Q)))))) : Y cX12_comesBack 3 RX12 (d + 1) sx 42 [some (vr 12 0), some (vi a1), some (vi a2)] [] mem Q := by
  refine a_iload_n dX12_comesBack_42 rfl rfl ?_
  refine a_aload_n dX12_comesBack_43 rfl rfl ?_
  refine gf_X12_84 dX12_comesBack_44 ?_
  refine a_iload_n dX12_comesBack_47 rfl rfl ?_
  refine a_iald rfl rfl (by decide) rfl dX12_comesBack_48 ⟨h.1, ?_⟩
  refine a_icmp_ge (tgt := 82) dX12_comesBack_49 (by decide) ⟨fun c1 => ?_, fun c1 => ?_⟩
  · exact a_vret dX12_comesBack_82 (h.2.1 c1)
  · refine a_aload_n dX12_comesBack_52 rfl rfl ?_
    refine gf_X12_87 dX12_comesBack_53 ?_
    refine a_bipush (k := 7) dX12_comesBack_56 (by decide) (n_lit (by decide)) ?_
    refine a_iload_n dX12_comesBack_58 rfl rfl ?_
    refine a_imul dX12_comesBack_59 ?_
    refine a_iload_n dX12_comesBack_60 rfl rfl ?_
    refine a_iadd dX12_comesBack_61 ?_
    refine a_aload_n dX12_comesBack_62 rfl rfl ?_
    refine gf_X12_87 dX12_comesBack_63 ?_
    refine a_bipush (k := 7) dX12_comesBack_66 (by decide) (n_lit (by decide)) ?_
    refine a_iload_n dX12_comesBack_68 rfl rfl ?_
    refine a_imul dX12_comesBack_69 ?_
    refine a_iload_n dX12_comesBack_70 rfl rfl ?_
    refine a_iadd dX12_comesBack_71 ?_
    refine a_iconst (k := 1) dX12_comesBack_72 (n_lit (by decide)) ?_
    refine a_iadd dX12_comesBack_73 ?_
    refine a_iald rfl rfl (by decide) rfl dX12_comesBack_74 ⟨(h.2.2 c1).1, ?_⟩
    refine a_iast rfl rfl (by decide) rfl dX12_comesBack_75 ⟨(h.2.2 c1).2.1, ?_⟩
    refine a_iinc dX12_comesBack_76 rfl (by decide) rfl ?_
    refine a_goto (tgt := 42) dX12_comesBack_79 (by decide) ?_
    exact (h.2.2 c1).2.2
set_option maxRecDepth 10000 in
theorem sg_X12_raids_0 {d : Nat} {sx : Option (List Int)} (a1 : Int) (a2 : Int) (mem : AMem) (Q : Option AV → AMem → Prop) (h : (a2 ≠ (8 : Int) → (Y cX12_raids 5 RX12 (d + 1) sx 34 [some (vr 12 0), some (vi a1), some (vi a2), some (vi (w32 (1 - a1))), some (vi 0)] [] mem Q)) ∧ (a2 = (8 : Int) → (MtX yX12_goesOut cX12_goesOut 3 none d [vr 12 0, vi a1] mem (fun r m2 => r = none ∧ (MtX yX12_comesBack cX12_comesBack 3 none d [vr 12 0, vi (w32 (1 - a1))] m2 (fun r m4 => r = none ∧ ((0 ≤ (w32 (1 - a1)) ∧ (w32 (1 - a1)) < 2) ∧ ((0 ≤ (w32 (1 - a1)) ∧ (w32 (1 - a1)) < 2) ∧ (Q none (upM m4 1348 0 (w32 (1 - a1)) (w32 ((m4 1348 0 (w32 (1 - a1))) + 1)))))))))))) : Y cX12_raids 5 RX12 (d + 1) sx 0 [some (vr 12 0), some (vi a1), some (vi a2), none, none] [] mem Q := by
  refine a_iconst (k := 1) dX12_raids_0 (n_lit (by decide)) ?_
  refine a_iload_n dX12_raids_1 rfl rfl ?_
  refine a_isub dX12_raids_2 ?_
  refine a_istore_n dX12_raids_3 rfl (by decide) rfl ?_
  refine a_iload_n dX12_raids_4 rfl rfl ?_
  refine a_bipush (k := 8) dX12_raids_5 (by decide) (n_lit (by decide)) ?_
  refine a_icmp_ne (tgt := 31) dX12_raids_7 (by decide) ⟨fun c1 => ?_, fun c1 => ?_⟩
  · refine a_iconst (k := 0) dX12_raids_31 (n_lit (by decide)) ?_
    refine a_istore dX12_raids_32 (by decide) rfl ?_
    exact (h.1 c1)
  · refine a_aload_n dX12_raids_10 rfl rfl ?_
    refine a_iload_n dX12_raids_11 rfl rfl ?_
    refine iv_X12_393 dX12_raids_12 (Nat.le_of_ble_eq_true rfl) (MtX_mono (h.2 c1) (fun r m2 hq => ?_))
    obtain ⟨rfl, h3⟩ := hq
    refine ⟨rfl, ?_⟩
    refine a_aload_n dX12_raids_15 rfl rfl ?_
    refine a_iload_n dX12_raids_16 rfl rfl ?_
    refine iv_X12_396 dX12_raids_17 (Nat.le_of_ble_eq_true rfl) (MtX_mono h3 (fun r m4 hq => ?_))
    obtain ⟨rfl, h5⟩ := hq
    refine ⟨rfl, ?_⟩
    refine a_aload_n dX12_raids_20 rfl rfl ?_
    refine gf_X12_90 dX12_raids_21 ?_
    refine a_iload_n dX12_raids_24 rfl rfl ?_
    refine a_dup2 dX12_raids_25 rfl rfl ?_
    refine a_iald rfl rfl (by decide) rfl dX12_raids_26 ⟨h5.1, ?_⟩
    refine a_iconst (k := 1) dX12_raids_27 (n_lit (by decide)) ?_
    refine a_iadd dX12_raids_28 ?_
    refine a_iast rfl rfl (by decide) rfl dX12_raids_29 ⟨h5.2.1, ?_⟩
    exact a_vret dX12_raids_30 h5.2.2
set_option maxRecDepth 10000 in
theorem sg_X12_raids_34 {d : Nat} {sx : Option (List Int)} (a1 : Int) (a2 : Int) (a3 : Int) (a4 : Int) (mem : AMem) (Q : Option AV → AMem → Prop) (h : (a2 ≤ a4 → (Y cX12_raids 5 RX12 (d + 1) sx 54 [some (vr 12 0), some (vi a1), some (vi a2), some (vi a3), some (vi 0)] [] mem Q)) ∧ (¬ a2 ≤ a4 → (MtX yX12_goesOut cX12_goesOut 3 none d [vr 12 0, vi a3] mem (fun r m2 => r = none ∧ (Y cX12_raids 5 RX12 (d + 1) sx 34 [some (vr 12 0), some (vi a1), some (vi a2), some (vi a3), some (vi (w32 (a4 + 1)))] [] m2 Q))))) : Y cX12_raids 5 RX12 (d + 1) sx 34 [some (vr 12 0), some (vi a1), some (vi a2), some (vi a3), some (vi a4)] [] mem Q := by
  refine a_iload dX12_raids_34 rfl ?_
  refine a_iload_n dX12_raids_36 rfl rfl ?_
  refine a_icmp_ge (tgt := 51) dX12_raids_37 (by decide) ⟨fun c1 => ?_, fun c1 => ?_⟩
  · refine a_iconst (k := 0) dX12_raids_51 (n_lit (by decide)) ?_
    refine a_istore dX12_raids_52 (by decide) rfl ?_
    exact (h.1 c1)
  · refine a_aload_n dX12_raids_40 rfl rfl ?_
    refine a_iload_n dX12_raids_41 rfl rfl ?_
    refine iv_X12_393 dX12_raids_42 (Nat.le_of_ble_eq_true rfl) (MtX_mono (h.2 c1) (fun r m2 hq => ?_))
    obtain ⟨rfl, h3⟩ := hq
    refine ⟨rfl, ?_⟩
    refine a_iinc dX12_raids_45 rfl (by decide) rfl ?_
    refine a_goto (tgt := 34) dX12_raids_48 (by decide) ?_
    exact h3
set_option maxRecDepth 10000 in
theorem sg_X12_raids_54 {d : Nat} {sx : Option (List Int)} (a1 : Int) (a2 : Int) (a3 : Int) (a4 : Int) (mem : AMem) (Q : Option AV → AMem → Prop) (h : (a2 ≤ a4 → ((0 ≤ a1 ∧ a1 < 2) ∧ ((0 ≤ a1 ∧ a1 < 2) ∧ (Q none (upM mem 1348 0 a1 (w32 ((mem 1348 0 a1) + a2))))))) ∧ (¬ a2 ≤ a4 → (MtX yX12_comesBack cX12_comesBack 3 none d [vr 12 0, vi a1] mem (fun r m2 => r = none ∧ (Y cX12_raids 5 RX12 (d + 1) sx 54 [some (vr 12 0), some (vi a1), some (vi a2), some (vi a3), some (vi (w32 (a4 + 1)))] [] m2 Q))))) : Y cX12_raids 5 RX12 (d + 1) sx 54 [some (vr 12 0), some (vi a1), some (vi a2), some (vi a3), some (vi a4)] [] mem Q := by
  refine a_iload dX12_raids_54 rfl ?_
  refine a_iload_n dX12_raids_56 rfl rfl ?_
  refine a_icmp_ge (tgt := 71) dX12_raids_57 (by decide) ⟨fun c1 => ?_, fun c1 => ?_⟩
  · refine a_aload_n dX12_raids_71 rfl rfl ?_
    refine gf_X12_90 dX12_raids_72 ?_
    refine a_iload_n dX12_raids_75 rfl rfl ?_
    refine a_dup2 dX12_raids_76 rfl rfl ?_
    refine a_iald rfl rfl (by decide) rfl dX12_raids_77 ⟨(h.1 c1).1, ?_⟩
    refine a_iload_n dX12_raids_78 rfl rfl ?_
    refine a_iadd dX12_raids_79 ?_
    refine a_iast rfl rfl (by decide) rfl dX12_raids_80 ⟨(h.1 c1).2.1, ?_⟩
    exact a_vret dX12_raids_81 (h.1 c1).2.2
  · refine a_aload_n dX12_raids_60 rfl rfl ?_
    refine a_iload_n dX12_raids_61 rfl rfl ?_
    refine iv_X12_396 dX12_raids_62 (Nat.le_of_ble_eq_true rfl) (MtX_mono (h.2 c1) (fun r m2 hq => ?_))
    obtain ⟨rfl, h3⟩ := hq
    refine ⟨rfl, ?_⟩
    refine a_iinc dX12_raids_65 rfl (by decide) rfl ?_
    refine a_goto (tgt := 54) dX12_raids_68 (by decide) ?_
    exact h3
set_option maxRecDepth 10000 in
theorem sg_X12_goSheet_0 {d : Nat} {sx : Option (List Int)} (a1 : Int) (a2 : Int) (mem : AMem) (Q : Option AV → AMem → Prop) (h : (0 ≤ (0 : Int) ∧ (0 : Int) < 2) ∧ ((0 ≤ (1 : Int) ∧ (1 : Int) < 2) ∧ (Y cX12_goSheet 6 RX12 (d + 1) sx 30 [some (vr 12 0), some (vi a1), some (vi a2), some (vi 0), none, none] [] (upM (upM mem 1345 0 0 (w32 ((shl32 1 (w32 (Int.tdiv a2 10))) - 1))) 1345 0 1 (w32 ((shl32 1 (Int.tmod a2 10)) - 1))) Q))) : Y cX12_goSheet 6 RX12 (d + 1) sx 0 [some (vr 12 0), some (vi a1), some (vi a2), none, none, none] [] mem Q := by
  refine a_aload_n dX12_goSheet_0 rfl rfl ?_
  refine gf_X12_81 dX12_goSheet_1 ?_
  refine a_iconst (k := 0) dX12_goSheet_4 (n_lit (by decide)) ?_
  refine a_iconst (k := 1) dX12_goSheet_5 (n_lit (by decide)) ?_
  refine a_iload_n dX12_goSheet_6 rfl rfl ?_
  refine a_bipush (k := 10) dX12_goSheet_7 (by decide) (n_lit (by decide)) ?_
  refine a_idiv dX12_goSheet_9 (by decide) ?_
  refine a_ishl dX12_goSheet_10 ?_
  refine a_iconst (k := 1) dX12_goSheet_11 (n_lit (by decide)) ?_
  refine a_isub dX12_goSheet_12 ?_
  refine a_iast rfl rfl (by decide) rfl dX12_goSheet_13 ⟨h.1, ?_⟩
  refine a_aload_n dX12_goSheet_14 rfl rfl ?_
  refine gf_X12_81 dX12_goSheet_15 ?_
  refine a_iconst (k := 1) dX12_goSheet_18 (n_lit (by decide)) ?_
  refine a_iconst (k := 1) dX12_goSheet_19 (n_lit (by decide)) ?_
  refine a_iload_n dX12_goSheet_20 rfl rfl ?_
  refine a_bipush (k := 10) dX12_goSheet_21 (by decide) (n_lit (by decide)) ?_
  refine a_irem dX12_goSheet_23 (by decide) ?_
  refine a_ishl dX12_goSheet_24 ?_
  refine a_iconst (k := 1) dX12_goSheet_25 (n_lit (by decide)) ?_
  refine a_isub dX12_goSheet_26 ?_
  refine a_iast rfl rfl (by decide) rfl dX12_goSheet_27 ⟨h.2.1, ?_⟩
  refine a_iconst (k := 0) dX12_goSheet_28 (n_lit (by decide)) ?_
  refine a_istore_n dX12_goSheet_29 rfl (by decide) rfl ?_
  exact h.2.2
set_option maxRecDepth 10000 in
theorem sg_X12_goSheet_30 {d : Nat} {sx : Option (List Int)} (a1 : Int) (a2 : Int) (a3 : Int) (mem : AMem) (Q : Option AV → AMem → Prop) (h : ((2 : Int) ≤ a3 → (Y cX12_goSheet 6 RX12 (d + 1) sx 63 [some (vr 12 0), some (vi a1), some (vi a2), some (vi 0), none, none] [] (upM mem 12 0 49 (-2)) Q)) ∧ (¬ (2 : Int) ≤ a3 → ((0 ≤ a3 ∧ a3 < 2) ∧ ((0 ≤ a3 ∧ a3 < 2) ∧ (Y cX12_goSheet 6 RX12 (d + 1) sx 30 [some (vr 12 0), some (vi a1), some (vi a2), some (vi (w32 (a3 + 1))), none, none] [] (upM (upM mem 1346 0 a3 0) 1348 0 a3 0) Q))))) : Y cX12_goSheet 6 RX12 (d + 1) sx 30 [some (vr 12 0), some (vi a1), some (vi a2), some (vi a3), none, none] [] mem Q := by
  refine a_iload_n dX12_goSheet_30 rfl rfl ?_
  refine a_iconst (k := 2) dX12_goSheet_31 (n_lit (by decide)) ?_
  refine a_icmp_ge (tgt := 55) dX12_goSheet_32 (by decide) ⟨fun c1 => ?_, fun c1 => ?_⟩
  · refine a_aload_n dX12_goSheet_55 rfl rfl ?_
    refine a_bipush (k := (-2)) dX12_goSheet_56 (by decide) (n_lit (by decide)) ?_
    refine pf_X12_399 dX12_goSheet_58 ?_
    refine a_iconst (k := 0) dX12_goSheet_61 (n_lit (by decide)) ?_
    refine a_istore_n dX12_goSheet_62 rfl (by decide) rfl ?_
    exact (h.1 c1)
  · refine a_aload_n dX12_goSheet_35 rfl rfl ?_
    refine gf_X12_84 dX12_goSheet_36 ?_
    refine a_iload_n dX12_goSheet_39 rfl rfl ?_
    refine a_iconst (k := 0) dX12_goSheet_40 (n_lit (by decide)) ?_
    refine a_iast rfl rfl (by decide) rfl dX12_goSheet_41 ⟨(h.2 c1).1, ?_⟩
    refine a_aload_n dX12_goSheet_42 rfl rfl ?_
    refine gf_X12_90 dX12_goSheet_43 ?_
    refine a_iload_n dX12_goSheet_46 rfl rfl ?_
    refine a_iconst (k := 0) dX12_goSheet_47 (n_lit (by decide)) ?_
    refine a_iast rfl rfl (by decide) rfl dX12_goSheet_48 ⟨(h.2 c1).2.1, ?_⟩
    refine a_iinc dX12_goSheet_49 rfl (by decide) rfl ?_
    refine a_goto (tgt := 30) dX12_goSheet_52 (by decide) ?_
    exact (h.2 c1).2.2
set_option maxRecDepth 10000 in
theorem sg_X12_goSheet_63 {d : Nat} {sx : Option (List Int)} (a1 : Int) (a2 : Int) (a3 : Int) (mem : AMem) (Q : Option AV → AMem → Prop) (h : (0 ≤ a1 ∧ a1 < 6) ∧ (((mem 1360 0 a1) ≤ a3 → (Q none mem)) ∧ (¬ (mem 1360 0 a1) ≤ a3 → (((0 : Int) ≤ (mem 12 0 49) → (Q none mem)) ∧ (¬ (0 : Int) ≤ (mem 12 0 49) → (MtX yX12_at cX12_at 3 (some .int) d [vr 12 0, vi a1, vi a3] mem (fun r m3 => ∃ x5 : Int, r = some (vi x5) ∧ (MtX yX12_in cX12_in 3 (some .boolean) d [vi x5, vi 0, vi 8] m3 (fun r m6 => ∃ x8 : Int, r = some (vi x8) ∧ ((x8 = (0 : Int) → (Y cX12_goSheet 6 RX12 (d + 1) sx 63 [some (vr 12 0), some (vi a1), some (vi a2), some (vi (w32 (a3 + 1))), some (vi (Int.tmod a3 2)), some (vi x5)] [] (upM m6 12 0 49 a3) Q)) ∧ (¬ x8 = (0 : Int) → ((0 ≤ (Int.tmod a3 2) ∧ (Int.tmod a3 2) < 2) ∧ (((m6 1345 0 (Int.tmod a3 2)) = (0 : Int) → (Y cX12_goSheet 6 RX12 (d + 1) sx 63 [some (vr 12 0), some (vi a1), some (vi a2), some (vi (w32 (a3 + 1))), some (vi (Int.tmod a3 2)), some (vi x5)] [] (upM m6 12 0 49 a3) Q)) ∧ (¬ (m6 1345 0 (Int.tmod a3 2)) = (0 : Int) → (((8 : Int) ≤ x5 → (MtX yX12_raids cX12_raids 5 none d [vr 12 0, vi (Int.tmod a3 2), vi x5] m6 (fun r m12 => r = none ∧ (Y cX12_goSheet 6 RX12 (d + 1) sx 63 [some (vr 12 0), some (vi a1), some (vi a2), some (vi (w32 (a3 + 1))), some (vi (Int.tmod a3 2)), some (vi x5)] [] m12 Q)))) ∧ (¬ (8 : Int) ≤ x5 → ((0 ≤ (w32 (1 - (Int.tmod a3 2))) ∧ (w32 (1 - (Int.tmod a3 2))) < 2) ∧ (MtX yX12_bitsOf cX12_bitsOf 3 (some .int) d [vi (m6 1345 0 (w32 (1 - (Int.tmod a3 2))))] m6 (fun r m14 => ∃ x16 : Int, r = some (vi x16) ∧ ((x5 ≤ x16 → (MtX yX12_raids cX12_raids 5 none d [vr 12 0, vi (Int.tmod a3 2), vi x5] m14 (fun r m18 => r = none ∧ (Y cX12_goSheet 6 RX12 (d + 1) sx 63 [some (vr 12 0), some (vi a1), some (vi a2), some (vi (w32 (a3 + 1))), some (vi (Int.tmod a3 2)), some (vi x5)] [] m18 Q)))) ∧ (¬ x5 ≤ x16 → (Y cX12_goSheet 6 RX12 (d + 1) sx 63 [some (vr 12 0), some (vi a1), some (vi a2), some (vi (w32 (a3 + 1))), some (vi (Int.tmod a3 2)), some (vi x5)] [] (upM m14 12 0 49 a3) Q)))))))))))))))))))))) : Y cX12_goSheet 6 RX12 (d + 1) sx 63 [some (vr 12 0), some (vi a1), some (vi a2), some (vi a3), none, none] [] mem Q := by
  refine a_iload_n dX12_goSheet_63 rfl rfl ?_
  refine a_aload_n dX12_goSheet_64 rfl rfl ?_
  refine gf_X12_111 dX12_goSheet_65 ?_
  refine a_iload_n dX12_goSheet_68 rfl rfl ?_
  refine a_iald rfl rfl (by decide) rfl dX12_goSheet_69 ⟨h.1, ?_⟩
  refine a_icmp_ge (tgt := 160) dX12_goSheet_70 (by decide) ⟨fun c1 => ?_, fun c1 => ?_⟩
  · exact a_vret dX12_goSheet_160 (h.2.1 c1)
  · refine a_aload_n dX12_goSheet_73 rfl rfl ?_
    refine gf_X12_399 (x := mem 12 0 49) rfl dX12_goSheet_74 ?_
    refine a_if_ge (tgt := 160) dX12_goSheet_77 (by decide) ⟨fun c2 => ?_, fun c2 => ?_⟩
    · exact a_vret dX12_goSheet_160 ((h.2.2 c1).1 c2)
    · refine a_iload_n dX12_goSheet_80 rfl rfl ?_
      refine a_iconst (k := 2) dX12_goSheet_81 (n_lit (by decide)) ?_
      refine a_irem dX12_goSheet_82 (by decide) ?_
      refine a_istore dX12_goSheet_83 (by decide) rfl ?_
      refine a_aload_n dX12_goSheet_85 rfl rfl ?_
      refine a_iload_n dX12_goSheet_86 rfl rfl ?_
      refine a_iload_n dX12_goSheet_87 rfl rfl ?_
      refine iv_X12_307 dX12_goSheet_88 (Nat.le_of_ble_eq_true rfl) (MtX_mono ((h.2.2 c1).2 c2) (fun r m3 hq => ?_))
      obtain ⟨x5, rfl, h4⟩ := hq
      refine ⟨x5, rfl, ?_⟩
      refine a_istore dX12_goSheet_91 (by decide) rfl ?_
      refine a_iload dX12_goSheet_93 rfl ?_
      refine a_iconst (k := 0) dX12_goSheet_95 (n_lit (by decide)) ?_
      refine a_bipush (k := 8) dX12_goSheet_96 (by decide) (n_lit (by decide)) ?_
      refine iv_X12_128 dX12_goSheet_98 (Nat.le_of_ble_eq_true rfl) (MtX_mono h4 (fun r m6 hq => ?_))
      obtain ⟨x8, rfl, h7⟩ := hq
      refine ⟨x8, rfl, ?_⟩
      refine a_if_eq (tgt := 138) dX12_goSheet_101 (by decide) ⟨fun c9 => ?_, fun c9 => ?_⟩
      · refine a_aload_n dX12_goSheet_138 rfl rfl ?_
        refine a_iload_n dX12_goSheet_139 rfl rfl ?_
        refine pf_X12_399 dX12_goSheet_140 ?_
        refine a_goto (tgt := 154) dX12_goSheet_143 (by decide) ?_
        refine a_iinc dX12_goSheet_154 rfl (by decide) rfl ?_
        refine a_goto (tgt := 63) dX12_goSheet_157 (by decide) ?_
        exact (h7.1 c9)
      · refine a_aload_n dX12_goSheet_104 rfl rfl ?_
        refine gf_X12_81 dX12_goSheet_105 ?_
        refine a_iload dX12_goSheet_108 rfl ?_
        refine a_iald rfl rfl (by decide) rfl dX12_goSheet_110 ⟨(h7.2 c9).1, ?_⟩
        refine a_if_eq (tgt := 138) dX12_goSheet_111 (by decide) ⟨fun c10 => ?_, fun c10 => ?_⟩
        · refine a_aload_n dX12_goSheet_138 rfl rfl ?_
          refine a_iload_n dX12_goSheet_139 rfl rfl ?_
          refine pf_X12_399 dX12_goSheet_140 ?_
          refine a_goto (tgt := 154) dX12_goSheet_143 (by decide) ?_
          refine a_iinc dX12_goSheet_154 rfl (by decide) rfl ?_
          refine a_goto (tgt := 63) dX12_goSheet_157 (by decide) ?_
          exact ((h7.2 c9).2.1 c10)
        · refine a_iload dX12_goSheet_114 rfl ?_
          refine a_bipush (k := 8) dX12_goSheet_116 (by decide) (n_lit (by decide)) ?_
          refine a_icmp_ge (tgt := 146) dX12_goSheet_118 (by decide) ⟨fun c11 => ?_, fun c11 => ?_⟩
          · refine a_aload_n dX12_goSheet_146 rfl rfl ?_
            refine a_iload dX12_goSheet_147 rfl ?_
            refine a_iload dX12_goSheet_149 rfl ?_
            refine iv_X12_402 dX12_goSheet_151 (Nat.le_of_ble_eq_true rfl) (MtX_mono (((h7.2 c9).2.2 c10).1 c11) (fun r m12 hq => ?_))
            obtain ⟨rfl, h13⟩ := hq
            refine ⟨rfl, ?_⟩
            refine a_iinc dX12_goSheet_154 rfl (by decide) rfl ?_
            refine a_goto (tgt := 63) dX12_goSheet_157 (by decide) ?_
            exact h13
          · refine a_iload dX12_goSheet_121 rfl ?_
            refine a_aload_n dX12_goSheet_123 rfl rfl ?_
            refine gf_X12_81 dX12_goSheet_124 ?_
            refine a_iconst (k := 1) dX12_goSheet_127 (n_lit (by decide)) ?_
            refine a_iload dX12_goSheet_128 rfl ?_
            refine a_isub dX12_goSheet_130 ?_
            refine a_iald rfl rfl (by decide) rfl dX12_goSheet_131 ⟨(((h7.2 c9).2.2 c10).2 c11).1, ?_⟩
            refine iv_X12_279 dX12_goSheet_132 (Nat.le_of_ble_eq_true rfl) (MtX_mono (((h7.2 c9).2.2 c10).2 c11).2 (fun r m14 hq => ?_))
            obtain ⟨x16, rfl, h15⟩ := hq
            refine ⟨x16, rfl, ?_⟩
            refine a_icmp_le (tgt := 146) dX12_goSheet_135 (by decide) ⟨fun c17 => ?_, fun c17 => ?_⟩
            · refine a_aload_n dX12_goSheet_146 rfl rfl ?_
              refine a_iload dX12_goSheet_147 rfl ?_
              refine a_iload dX12_goSheet_149 rfl ?_
              refine iv_X12_402 dX12_goSheet_151 (Nat.le_of_ble_eq_true rfl) (MtX_mono (h15.1 c17) (fun r m18 hq => ?_))
              obtain ⟨rfl, h19⟩ := hq
              refine ⟨rfl, ?_⟩
              refine a_iinc dX12_goSheet_154 rfl (by decide) rfl ?_
              refine a_goto (tgt := 63) dX12_goSheet_157 (by decide) ?_
              exact h19
            · refine a_aload_n dX12_goSheet_138 rfl rfl ?_
              refine a_iload_n dX12_goSheet_139 rfl rfl ?_
              refine pf_X12_399 dX12_goSheet_140 ?_
              refine a_goto (tgt := 154) dX12_goSheet_143 (by decide) ?_
              refine a_iinc dX12_goSheet_154 rfl (by decide) rfl ?_
              refine a_goto (tgt := 63) dX12_goSheet_157 (by decide) ?_
              exact (h15.2 c17)
set_option maxRecDepth 10000 in
theorem sg_X12_areSizes_0 {d : Nat} {sx : Option (List Int)} (a0 : Int) (mem : AMem) (Q : Option AV → AMem → Prop) (h : (a0 < (0 : Int) → (Q (some (vi 0)) mem)) ∧ (¬ a0 < (0 : Int) → (MtX yX12_in cX12_in 3 (some .boolean) d [vi (w32 (Int.tdiv a0 10)), vi 1, vi 7] mem (fun r m2 => ∃ x4 : Int, r = some (vi x4) ∧ ((x4 = (0 : Int) → (Q (some (vi 0)) m2)) ∧ (¬ x4 = (0 : Int) → (MtX yX12_in cX12_in 3 (some .boolean) d [vi (Int.tmod a0 10), vi 1, vi 7] m2 (fun r m6 => ∃ x8 : Int, r = some (vi x8) ∧ ((x8 = (0 : Int) → (Q (some (vi 0)) m6)) ∧ (¬ x8 = (0 : Int) → (Q (some (vi 1)) m6))))))))))) : Y cX12_areSizes 1 RX12 (d + 1) sx 0 [some (vi a0)] [] mem Q := by
  refine a_iload_n dX12_areSizes_0 rfl rfl ?_
  refine a_if_lt (tgt := 34) dX12_areSizes_1 (by decide) ⟨fun c1 => ?_, fun c1 => ?_⟩
  · refine a_iconst (k := 0) dX12_areSizes_34 (n_lit (by decide)) ?_
    exact a_iret dX12_areSizes_35 (h.1 c1)
  · refine a_iload_n dX12_areSizes_4 rfl rfl ?_
    refine a_bipush (k := 10) dX12_areSizes_5 (by decide) (n_lit (by decide)) ?_
    refine a_idiv dX12_areSizes_7 (by decide) ?_
    refine a_iconst (k := 1) dX12_areSizes_8 (n_lit (by decide)) ?_
    refine a_bipush (k := 7) dX12_areSizes_9 (by decide) (n_lit (by decide)) ?_
    refine iv_X12_128 dX12_areSizes_11 (Nat.le_of_ble_eq_true rfl) (MtX_mono (h.2 c1) (fun r m2 hq => ?_))
    obtain ⟨x4, rfl, h3⟩ := hq
    refine ⟨x4, rfl, ?_⟩
    refine a_if_eq (tgt := 34) dX12_areSizes_14 (by decide) ⟨fun c5 => ?_, fun c5 => ?_⟩
    · refine a_iconst (k := 0) dX12_areSizes_34 (n_lit (by decide)) ?_
      exact a_iret dX12_areSizes_35 (h3.1 c5)
    · refine a_iload_n dX12_areSizes_17 rfl rfl ?_
      refine a_bipush (k := 10) dX12_areSizes_18 (by decide) (n_lit (by decide)) ?_
      refine a_irem dX12_areSizes_20 (by decide) ?_
      refine a_iconst (k := 1) dX12_areSizes_21 (n_lit (by decide)) ?_
      refine a_bipush (k := 7) dX12_areSizes_22 (by decide) (n_lit (by decide)) ?_
      refine iv_X12_128 dX12_areSizes_24 (Nat.le_of_ble_eq_true rfl) (MtX_mono (h3.2 c5) (fun r m6 hq => ?_))
      obtain ⟨x8, rfl, h7⟩ := hq
      refine ⟨x8, rfl, ?_⟩
      refine a_if_eq (tgt := 34) dX12_areSizes_27 (by decide) ⟨fun c9 => ?_, fun c9 => ?_⟩
      · refine a_iconst (k := 0) dX12_areSizes_34 (n_lit (by decide)) ?_
        exact a_iret dX12_areSizes_35 (h7.1 c9)
      · refine a_iconst (k := 1) dX12_areSizes_30 (n_lit (by decide)) ?_
        refine a_goto (tgt := 35) dX12_areSizes_31 (by decide) ?_
        exact a_iret dX12_areSizes_35 (h7.2 c9)
set_option maxRecDepth 10000 in
theorem sg_X12_judge_0 {d : Nat} {sx : Option (List Int)} (a1 : Int) (a2 : Int) (mem : AMem) (Q : Option AV → AMem → Prop) (h : MtX yX12_isShelf cX12_isShelf 1 (some .boolean) d [vi a1] mem (fun r m1 => ∃ x3 : Int, r = some (vi x3) ∧ ((x3 = (0 : Int) → (Q (some (vi (-1))) m1)) ∧ (¬ x3 = (0 : Int) → (MtX yX12_areSizes cX12_areSizes 1 (some .boolean) d [vi a2] m1 (fun r m5 => ∃ x7 : Int, r = some (vi x7) ∧ ((x7 ≠ (0 : Int) → (MtX yX12_rowFault cX12_rowFault 2 (some .int) d [vr 12 0, vi a1] m5 (fun r m9 => ∃ x11 : Int, r = some (vi x11) ∧ (((0 : Int) ≤ x11 → (MtX yX12_goSheet cX12_goSheet 6 none d [vr 12 0, vi a1, vi a2] m9 (fun r m13 => r = none ∧ (Q (some (vi (m13 12 0 49))) m13)))) ∧ (¬ (0 : Int) ≤ x11 → (MtX yX12_rowFault cX12_rowFault 2 (some .int) d [vr 12 0, vi a1] m9 (fun r m15 => ∃ x17 : Int, r = some (vi x17) ∧ (Q (some (vi x17)) m15)))))))) ∧ (x7 = (0 : Int) → (Q (some (vi (-1))) m5))))))))) : Y cX12_judge 3 RX12 (d + 1) sx 0 [some (vr 12 0), some (vi a1), some (vi a2)] [] mem Q := by
  refine a_iload_n dX12_judge_0 rfl rfl ?_
  refine iv_X12_143 dX12_judge_1 (Nat.le_of_ble_eq_true rfl) (MtX_mono h (fun r m1 hq => ?_))
  obtain ⟨x3, rfl, h2⟩ := hq
  refine ⟨x3, rfl, ?_⟩
  refine a_if_eq (tgt := 14) dX12_judge_4 (by decide) ⟨fun c4 => ?_, fun c4 => ?_⟩
  · refine a_iconst (k := (-1)) dX12_judge_14 (n_lit (by decide)) ?_
    exact a_iret dX12_judge_15 (h2.1 c4)
  · refine a_iload_n dX12_judge_7 rfl rfl ?_
    refine iv_X12_405 dX12_judge_8 (Nat.le_of_ble_eq_true rfl) (MtX_mono (h2.2 c4) (fun r m5 hq => ?_))
    obtain ⟨x7, rfl, h6⟩ := hq
    refine ⟨x7, rfl, ?_⟩
    refine a_if_ne (tgt := 16) dX12_judge_11 (by decide) ⟨fun c8 => ?_, fun c8 => ?_⟩
    · refine a_aload_n dX12_judge_16 rfl rfl ?_
      refine a_iload_n dX12_judge_17 rfl rfl ?_
      refine iv_X12_316 dX12_judge_18 (Nat.le_of_ble_eq_true rfl) (MtX_mono (h6.1 c8) (fun r m9 hq => ?_))
      obtain ⟨x11, rfl, h10⟩ := hq
      refine ⟨x11, rfl, ?_⟩
      refine a_if_ge (tgt := 30) dX12_judge_21 (by decide) ⟨fun c12 => ?_, fun c12 => ?_⟩
      · refine a_aload_n dX12_judge_30 rfl rfl ?_
        refine a_iload_n dX12_judge_31 rfl rfl ?_
        refine a_iload_n dX12_judge_32 rfl rfl ?_
        refine iv_X12_408 dX12_judge_33 (Nat.le_of_ble_eq_true rfl) (MtX_mono (h10.1 c12) (fun r m13 hq => ?_))
        obtain ⟨rfl, h14⟩ := hq
        refine ⟨rfl, ?_⟩
        refine a_aload_n dX12_judge_36 rfl rfl ?_
        refine gf_X12_399 (x := m13 12 0 49) rfl dX12_judge_37 ?_
        exact a_iret dX12_judge_40 h14
      · refine a_aload_n dX12_judge_24 rfl rfl ?_
        refine a_iload_n dX12_judge_25 rfl rfl ?_
        refine iv_X12_316 dX12_judge_26 (Nat.le_of_ble_eq_true rfl) (MtX_mono (h10.2 c12) (fun r m15 hq => ?_))
        obtain ⟨x17, rfl, h16⟩ := hq
        refine ⟨x17, rfl, ?_⟩
        exact a_iret dX12_judge_29 h16
    · refine a_iconst (k := (-1)) dX12_judge_14 (n_lit (by decide)) ?_
      exact a_iret dX12_judge_15 (h6.2 c8)
set_option maxRecDepth 10000 in
theorem sg_X12_bench_0 {d : Nat} {sx : Option (List Int)} (a1 : Int) (a2 : Int) (a3 : Int) (a4 : Int) (mem : AMem) (Q : Option AV → AMem → Prop) (h : MtX yX12_isShelf cX12_isShelf 1 (some .boolean) d [vi a1] mem (fun r m1 => ∃ x3 : Int, r = some (vi x3) ∧ ((x3 = (0 : Int) → (Q (some (vi (-1))) m1)) ∧ (¬ x3 = (0 : Int) → (MtX yX12_areSizes cX12_areSizes 1 (some .boolean) d [vi a2] m1 (fun r m5 => ∃ x7 : Int, r = some (vi x7) ∧ ((x7 = (0 : Int) → (Q (some (vi (-1))) m5)) ∧ (¬ x7 = (0 : Int) → (MtX yX12_in cX12_in 3 (some .boolean) d [vi a3, vi 0, vi 1] m5 (fun r m9 => ∃ x11 : Int, r = some (vi x11) ∧ ((x11 = (0 : Int) → (Q (some (vi (-1))) m9)) ∧ (¬ x11 = (0 : Int) → (MtX yX12_in cX12_in 3 (some .boolean) d [vi a4, vi 0, vi 2] m9 (fun r m13 => ∃ x15 : Int, r = some (vi x15) ∧ ((x15 ≠ (0 : Int) → (MtX yX12_rowFault cX12_rowFault 2 (some .int) d [vr 12 0, vi a1] m13 (fun r m17 => ∃ x19 : Int, r = some (vi x19) ∧ (((0 : Int) ≤ x19 → (MtX yX12_goSheet cX12_goSheet 6 none d [vr 12 0, vi a1, vi a2] m17 (fun r m21 => r = none ∧ ((a4 ≠ (0 : Int) → ((a4 ≠ (2 : Int) → ((0 ≤ a3 ∧ a3 < 2) ∧ (((m21 1346 0 a3) ≠ (0 : Int) → ((0 ≤ (w32 (7 * a3)) ∧ (w32 (7 * a3)) < 14) ∧ (Q (some (vi (m21 1347 0 (w32 (7 * a3))))) m21))) ∧ ((m21 1346 0 a3) = (0 : Int) → (Q (some (vi (-2))) m21))))) ∧ (a4 = (2 : Int) → ((0 ≤ a3 ∧ a3 < 2) ∧ (Q (some (vi (m21 1348 0 a3))) m21))))) ∧ (a4 = (0 : Int) → ((0 ≤ a3 ∧ a3 < 2) ∧ (Q (some (vi (m21 1345 0 a3))) m21))))))) ∧ (¬ (0 : Int) ≤ x19 → (MtX yX12_rowFault cX12_rowFault 2 (some .int) d [vr 12 0, vi a1] m17 (fun r m26 => ∃ x28 : Int, r = some (vi x28) ∧ (Q (some (vi x28)) m26)))))))) ∧ (x15 = (0 : Int) → (Q (some (vi (-1))) m13))))))))))))))))) : Y cX12_bench 5 RX12 (d + 1) sx 0 [some (vr 12 0), some (vi a1), some (vi a2), some (vi a3), some (vi a4)] [] mem Q := by
  refine a_iload_n dX12_bench_0 rfl rfl ?_
  refine iv_X12_143 dX12_bench_1 (Nat.le_of_ble_eq_true rfl) (MtX_mono h (fun r m1 hq => ?_))
  obtain ⟨x3, rfl, h2⟩ := hq
  refine ⟨x3, rfl, ?_⟩
  refine a_if_eq (tgt := 33) dX12_bench_4 (by decide) ⟨fun c4 => ?_, fun c4 => ?_⟩
  · refine a_iconst (k := (-1)) dX12_bench_33 (n_lit (by decide)) ?_
    exact a_iret dX12_bench_34 (h2.1 c4)
  · refine a_iload_n dX12_bench_7 rfl rfl ?_
    refine iv_X12_405 dX12_bench_8 (Nat.le_of_ble_eq_true rfl) (MtX_mono (h2.2 c4) (fun r m5 hq => ?_))
    obtain ⟨x7, rfl, h6⟩ := hq
    refine ⟨x7, rfl, ?_⟩
    refine a_if_eq (tgt := 33) dX12_bench_11 (by decide) ⟨fun c8 => ?_, fun c8 => ?_⟩
    · refine a_iconst (k := (-1)) dX12_bench_33 (n_lit (by decide)) ?_
      exact a_iret dX12_bench_34 (h6.1 c8)
    · refine a_iload_n dX12_bench_14 rfl rfl ?_
      refine a_iconst (k := 0) dX12_bench_15 (n_lit (by decide)) ?_
      refine a_iconst (k := 1) dX12_bench_16 (n_lit (by decide)) ?_
      refine iv_X12_128 dX12_bench_17 (Nat.le_of_ble_eq_true rfl) (MtX_mono (h6.2 c8) (fun r m9 hq => ?_))
      obtain ⟨x11, rfl, h10⟩ := hq
      refine ⟨x11, rfl, ?_⟩
      refine a_if_eq (tgt := 33) dX12_bench_20 (by decide) ⟨fun c12 => ?_, fun c12 => ?_⟩
      · refine a_iconst (k := (-1)) dX12_bench_33 (n_lit (by decide)) ?_
        exact a_iret dX12_bench_34 (h10.1 c12)
      · refine a_iload dX12_bench_23 rfl ?_
        refine a_iconst (k := 0) dX12_bench_25 (n_lit (by decide)) ?_
        refine a_iconst (k := 2) dX12_bench_26 (n_lit (by decide)) ?_
        refine iv_X12_128 dX12_bench_27 (Nat.le_of_ble_eq_true rfl) (MtX_mono (h10.2 c12) (fun r m13 hq => ?_))
        obtain ⟨x15, rfl, h14⟩ := hq
        refine ⟨x15, rfl, ?_⟩
        refine a_if_ne (tgt := 35) dX12_bench_30 (by decide) ⟨fun c16 => ?_, fun c16 => ?_⟩
        · refine a_aload_n dX12_bench_35 rfl rfl ?_
          refine a_iload_n dX12_bench_36 rfl rfl ?_
          refine iv_X12_316 dX12_bench_37 (Nat.le_of_ble_eq_true rfl) (MtX_mono (h14.1 c16) (fun r m17 hq => ?_))
          obtain ⟨x19, rfl, h18⟩ := hq
          refine ⟨x19, rfl, ?_⟩
          refine a_if_ge (tgt := 49) dX12_bench_40 (by decide) ⟨fun c20 => ?_, fun c20 => ?_⟩
          · refine a_aload_n dX12_bench_49 rfl rfl ?_
            refine a_iload_n dX12_bench_50 rfl rfl ?_
            refine a_iload_n dX12_bench_51 rfl rfl ?_
            refine iv_X12_408 dX12_bench_52 (Nat.le_of_ble_eq_true rfl) (MtX_mono (h18.1 c20) (fun r m21 hq => ?_))
            obtain ⟨rfl, h22⟩ := hq
            refine ⟨rfl, ?_⟩
            refine a_iload dX12_bench_55 rfl ?_
            refine a_if_ne (tgt := 67) dX12_bench_57 (by decide) ⟨fun c23 => ?_, fun c23 => ?_⟩
            · refine a_iload dX12_bench_67 rfl ?_
              refine a_iconst (k := 2) dX12_bench_69 (n_lit (by decide)) ?_
              refine a_icmp_ne (tgt := 82) dX12_bench_70 (by decide) ⟨fun c24 => ?_, fun c24 => ?_⟩
              · refine a_aload_n dX12_bench_82 rfl rfl ?_
                refine gf_X12_84 dX12_bench_83 ?_
                refine a_iload_n dX12_bench_86 rfl rfl ?_
                refine a_iald rfl rfl (by decide) rfl dX12_bench_87 ⟨((h22.1 c23).1 c24).1, ?_⟩
                refine a_if_ne (tgt := 96) dX12_bench_88 (by decide) ⟨fun c25 => ?_, fun c25 => ?_⟩
                · refine a_aload_n dX12_bench_96 rfl rfl ?_
                  refine gf_X12_87 dX12_bench_97 ?_
                  refine a_bipush (k := 7) dX12_bench_100 (by decide) (n_lit (by decide)) ?_
                  refine a_iload_n dX12_bench_102 rfl rfl ?_
                  refine a_imul dX12_bench_103 ?_
                  refine a_iald rfl rfl (by decide) rfl dX12_bench_104 ⟨(((h22.1 c23).1 c24).2.1 c25).1, ?_⟩
                  exact a_iret dX12_bench_105 (((h22.1 c23).1 c24).2.1 c25).2
                · refine a_bipush (k := (-2)) dX12_bench_91 (by decide) (n_lit (by decide)) ?_
                  refine a_goto (tgt := 105) dX12_bench_93 (by decide) ?_
                  exact a_iret dX12_bench_105 (((h22.1 c23).1 c24).2.2 c25)
              · refine a_aload_n dX12_bench_73 rfl rfl ?_
                refine gf_X12_90 dX12_bench_74 ?_
                refine a_iload_n dX12_bench_77 rfl rfl ?_
                refine a_iald rfl rfl (by decide) rfl dX12_bench_78 ⟨((h22.1 c23).2 c24).1, ?_⟩
                refine a_goto (tgt := 105) dX12_bench_79 (by decide) ?_
                exact a_iret dX12_bench_105 ((h22.1 c23).2 c24).2
            · refine a_aload_n dX12_bench_60 rfl rfl ?_
              refine gf_X12_81 dX12_bench_61 ?_
              refine a_iload_n dX12_bench_64 rfl rfl ?_
              refine a_iald rfl rfl (by decide) rfl dX12_bench_65 ⟨(h22.2 c23).1, ?_⟩
              exact a_iret dX12_bench_66 (h22.2 c23).2
          · refine a_aload_n dX12_bench_43 rfl rfl ?_
            refine a_iload_n dX12_bench_44 rfl rfl ?_
            refine iv_X12_316 dX12_bench_45 (Nat.le_of_ble_eq_true rfl) (MtX_mono (h18.2 c20) (fun r m26 hq => ?_))
            obtain ⟨x28, rfl, h27⟩ := hq
            refine ⟨x28, rfl, ?_⟩
            exact a_iret dX12_bench_48 h27
        · refine a_iconst (k := (-1)) dX12_bench_33 (n_lit (by decide)) ?_
          exact a_iret dX12_bench_34 (h14.2 c16)
set_option maxRecDepth 10000 in
theorem sg_X12_drawn_0 {d : Nat} {sx : Option (List Int)} (a1 : Int) (a2 : Int) (a3 : Int) (mem : AMem) (Q : Option AV → AMem → Prop) (h : MtX yX12_in cX12_in 3 (some .boolean) d [vi a2, vi 1, vi 50] mem (fun r m1 => ∃ x3 : Int, r = some (vi x3) ∧ ((x3 = (0 : Int) → (Q (some (vi (-1))) m1)) ∧ (¬ x3 = (0 : Int) → (MtX yX12_in cX12_in 3 (some .boolean) d [vi a3, vi 0, vi 1] m1 (fun r m5 => ∃ x7 : Int, r = some (vi x7) ∧ ((x7 ≠ (0 : Int) → (Y cX12_drawn 8 RX12 (d + 1) sx 33 [some (vr 12 0), some (vi a1), some (vi a2), some (vi a3), some (vi a1), some (vi 0), some (vi 0), some (vi 0)] [] m5 Q)) ∧ (x7 = (0 : Int) → (Q (some (vi (-1))) m5))))))))) : Y cX12_drawn 8 RX12 (d + 1) sx 0 [some (vr 12 0), some (vi a1), some (vi a2), some (vi a3), none, none, none, none] [] mem Q := by
  refine a_iload_n dX12_drawn_0 rfl rfl ?_
  refine a_iconst (k := 1) dX12_drawn_1 (n_lit (by decide)) ?_
  refine a_bipush (k := 50) dX12_drawn_2 (by decide) (n_lit (by decide)) ?_
  refine iv_X12_128 dX12_drawn_4 (Nat.le_of_ble_eq_true rfl) (MtX_mono h (fun r m1 hq => ?_))
  obtain ⟨x3, rfl, h2⟩ := hq
  refine ⟨x3, rfl, ?_⟩
  refine a_if_eq (tgt := 19) dX12_drawn_7 (by decide) ⟨fun c4 => ?_, fun c4 => ?_⟩
  · refine a_iconst (k := (-1)) dX12_drawn_19 (n_lit (by decide)) ?_
    exact a_iret dX12_drawn_20 (h2.1 c4)
  · refine a_iload_n dX12_drawn_10 rfl rfl ?_
    refine a_iconst (k := 0) dX12_drawn_11 (n_lit (by decide)) ?_
    refine a_iconst (k := 1) dX12_drawn_12 (n_lit (by decide)) ?_
    refine iv_X12_128 dX12_drawn_13 (Nat.le_of_ble_eq_true rfl) (MtX_mono (h2.2 c4) (fun r m5 hq => ?_))
    obtain ⟨x7, rfl, h6⟩ := hq
    refine ⟨x7, rfl, ?_⟩
    refine a_if_ne (tgt := 21) dX12_drawn_16 (by decide) ⟨fun c8 => ?_, fun c8 => ?_⟩
    · refine a_iload_n dX12_drawn_21 rfl rfl ?_
      refine a_istore dX12_drawn_22 (by decide) rfl ?_
      refine a_iconst (k := 0) dX12_drawn_24 (n_lit (by decide)) ?_
      refine a_istore dX12_drawn_25 (by decide) rfl ?_
      refine a_iconst (k := 0) dX12_drawn_27 (n_lit (by decide)) ?_
      refine a_istore dX12_drawn_28 (by decide) rfl ?_
      refine a_iconst (k := 0) dX12_drawn_30 (n_lit (by decide)) ?_
      refine a_istore dX12_drawn_31 (by decide) rfl ?_
      exact (h6.1 c8)
    · refine a_iconst (k := (-1)) dX12_drawn_19 (n_lit (by decide)) ?_
      exact a_iret dX12_drawn_20 (h6.2 c8)
set_option maxRecDepth 10000 in
theorem sg_X12_drawn_33 {d : Nat} {sx : Option (List Int)} (a1 : Int) (a2 : Int) (a3 : Int) (a4 : Int) (a5 : Int) (a6 : Int) (a7 : Int) (mem : AMem) (Q : Option AV → AMem → Prop) (h : (a2 ≤ a7 → ((a3 ≠ (0 : Int) → (Q (some (vi a6)) mem)) ∧ (a3 = (0 : Int) → (Q (some (vi a5)) mem)))) ∧ (¬ a2 ≤ a7 → (MtX yX12_beginRaid cX12_beginRaid 2 none d [vr 12 0] mem (fun r m3 => r = none ∧ (Y cX12_drawn 8 RX12 (d + 1) sx 43 [some (vr 12 0), some (vi a1), some (vi a2), some (vi a3), some (vi a4), some (vi a5), some (vi a6), some (vi a7)] [] m3 Q))))) : Y cX12_drawn 8 RX12 (d + 1) sx 33 [some (vr 12 0), some (vi a1), some (vi a2), some (vi a3), some (vi a4), some (vi a5), some (vi a6), some (vi a7)] [] mem Q := by
  refine a_iload dX12_drawn_33 rfl ?_
  refine a_iload_n dX12_drawn_35 rfl rfl ?_
  refine a_icmp_ge (tgt := 129) dX12_drawn_36 (by decide) ⟨fun c1 => ?_, fun c1 => ?_⟩
  · refine a_iload_n dX12_drawn_129 rfl rfl ?_
    refine a_if_ne (tgt := 138) dX12_drawn_130 (by decide) ⟨fun c2 => ?_, fun c2 => ?_⟩
    · refine a_iload dX12_drawn_138 rfl ?_
      exact a_iret dX12_drawn_140 ((h.1 c1).1 c2)
    · refine a_iload dX12_drawn_133 rfl ?_
      refine a_goto (tgt := 140) dX12_drawn_135 (by decide) ?_
      exact a_iret dX12_drawn_140 ((h.1 c1).2 c2)
  · refine a_aload_n dX12_drawn_39 rfl rfl ?_
    refine iv_X12_288 dX12_drawn_40 (Nat.le_of_ble_eq_true rfl) (MtX_mono (h.2 c1) (fun r m3 hq => ?_))
    obtain ⟨rfl, h4⟩ := hq
    refine ⟨rfl, ?_⟩
    exact h4
set_option maxRecDepth 10000 in
theorem sg_X12_drawn_43 {d : Nat} {sx : Option (List Int)} (a1 : Int) (a2 : Int) (a3 : Int) (a4 : Int) (a5 : Int) (a6 : Int) (a7 : Int) (mem : AMem) (Q : Option AV → AMem → Prop) (h : ((mem 12 0 32) ≠ (0 : Int) → (MtX yX12_pointsNow cX12_pointsNow 1 (some .int) d [vr 12 0] mem (fun r m2 => ∃ x4 : Int, r = some (vi x4) ∧ (((m2 12 0 32) ≠ (2 : Int) → (Y cX12_drawn 8 RX12 (d + 1) sx 33 [some (vr 12 0), some (vi a1), some (vi a2), some (vi a3), some (vi a4), some (vi (w32 (a5 + x4))), some (vi a6), some (vi (w32 (a7 + 1)))] [] m2 Q)) ∧ ((m2 12 0 32) = (2 : Int) → (Y cX12_drawn 8 RX12 (d + 1) sx 33 [some (vr 12 0), some (vi a1), some (vi a2), some (vi a3), some (vi a4), some (vi (w32 (a5 + x4))), some (vi (w32 (a6 + 1))), some (vi (w32 (a7 + 1)))] [] m2 Q)))))) ∧ ((mem 12 0 32) = (0 : Int) → ((0 ≤ (4 : Int) ∧ (4 : Int) < 10) ∧ (((mem 12 0 34) < (mem 1306 0 4) → (MtX yX12_goSecond cX12_goSecond 4 none d [vr 12 0, vi (Int.tmod (ushr32 (w32 ((w32 (a4 * 1103515245)) + 12345)) 8) 5)] mem (fun r m7 => r = none ∧ (Y cX12_drawn 8 RX12 (d + 1) sx 43 [some (vr 12 0), some (vi a1), some (vi a2), some (vi a3), some (vi (w32 ((w32 (a4 * 1103515245)) + 12345))), some (vi a5), some (vi a6), some (vi a7)] [] m7 Q)))) ∧ (¬ (mem 12 0 34) < (mem 1306 0 4) → (((an32 (ushr32 (w32 ((w32 (a4 * 1103515245)) + 12345)) 16) 1) ≠ (0 : Int) → (MtX yX12_goSecond cX12_goSecond 4 none d [vr 12 0, vi 2] mem (fun r m10 => r = none ∧ (Y cX12_drawn 8 RX12 (d + 1) sx 43 [some (vr 12 0), some (vi a1), some (vi a2), some (vi a3), some (vi (w32 ((w32 (a4 * 1103515245)) + 12345))), some (vi a5), some (vi a6), some (vi a7)] [] m10 Q)))) ∧ ((an32 (ushr32 (w32 ((w32 (a4 * 1103515245)) + 12345)) 16) 1) = (0 : Int) → (MtX yX12_goSecond cX12_goSecond 4 none d [vr 12 0, vi (Int.tmod (ushr32 (w32 ((w32 (a4 * 1103515245)) + 12345)) 8) 5)] mem (fun r m12 => r = none ∧ (Y cX12_drawn 8 RX12 (d + 1) sx 43 [some (vr 12 0), some (vi a1), some (vi a2), some (vi a3), some (vi (w32 ((w32 (a4 * 1103515245)) + 12345))), some (vi a5), some (vi a6), some (vi a7)] [] m12 Q)))))))))) : Y cX12_drawn 8 RX12 (d + 1) sx 43 [some (vr 12 0), some (vi a1), some (vi a2), some (vi a3), some (vi a4), some (vi a5), some (vi a6), some (vi a7)] [] mem Q := by
  refine a_aload_n dX12_drawn_43 rfl rfl ?_
  refine gf_X12_258 (x := mem 12 0 32) rfl dX12_drawn_44 ?_
  refine a_if_ne (tgt := 103) dX12_drawn_47 (by decide) ⟨fun c1 => ?_, fun c1 => ?_⟩
  · refine a_iload dX12_drawn_103 rfl ?_
    refine a_aload_n dX12_drawn_105 rfl rfl ?_
    refine iv_X12_322 dX12_drawn_106 (Nat.le_of_ble_eq_true rfl) (MtX_mono (h.1 c1) (fun r m2 hq => ?_))
    obtain ⟨x4, rfl, h3⟩ := hq
    refine ⟨x4, rfl, ?_⟩
    refine a_iadd dX12_drawn_109 ?_
    refine a_istore dX12_drawn_110 (by decide) rfl ?_
    refine a_aload_n dX12_drawn_112 rfl rfl ?_
    refine gf_X12_258 (x := m2 12 0 32) rfl dX12_drawn_113 ?_
    refine a_iconst (k := 2) dX12_drawn_116 (n_lit (by decide)) ?_
    refine a_icmp_ne (tgt := 123) dX12_drawn_117 (by decide) ⟨fun c5 => ?_, fun c5 => ?_⟩
    · refine a_iinc dX12_drawn_123 rfl (by decide) rfl ?_
      refine a_goto (tgt := 33) dX12_drawn_126 (by decide) ?_
      exact (h3.1 c5)
    · refine a_iinc dX12_drawn_120 rfl (by decide) rfl ?_
      refine a_iinc dX12_drawn_123 rfl (by decide) rfl ?_
      refine a_goto (tgt := 33) dX12_drawn_126 (by decide) ?_
      exact (h3.2 c5)
  · refine a_iload dX12_drawn_50 rfl ?_
    refine a_ldcw (k := 1103515245) co_X12_411 (n_lit (by decide)) dX12_drawn_52 ?_
    refine a_imul dX12_drawn_55 ?_
    refine a_sipush (k := 12345) dX12_drawn_56 (by decide) (n_lit (by decide)) ?_
    refine a_iadd dX12_drawn_59 ?_
    refine a_istore dX12_drawn_60 (by decide) rfl ?_
    refine a_aload_n dX12_drawn_62 rfl rfl ?_
    refine a_aload_n dX12_drawn_63 rfl rfl ?_
    refine gf_X12_264 (x := mem 12 0 34) rfl dX12_drawn_64 ?_
    refine a_aload_n dX12_drawn_67 rfl rfl ?_
    refine gf_X12_22 dX12_drawn_68 ?_
    refine a_iconst (k := 4) dX12_drawn_71 (n_lit (by decide)) ?_
    refine a_iald rfl rfl (by decide) rfl dX12_drawn_72 ⟨(h.2 c1).1, ?_⟩
    refine a_icmp_lt (tgt := 86) dX12_drawn_73 (by decide) ⟨fun c6 => ?_, fun c6 => ?_⟩
    · refine a_iload dX12_drawn_86 rfl ?_
      refine a_bipush (k := 8) dX12_drawn_88 (by decide) (n_lit (by decide)) ?_
      refine a_iushr dX12_drawn_90 ?_
      refine a_iconst (k := 5) dX12_drawn_91 (n_lit (by decide)) ?_
      refine a_irem dX12_drawn_92 (by decide) ?_
      refine a_goto (tgt := 97) dX12_drawn_93 (by decide) ?_
      refine iv_X12_313 dX12_drawn_97 (Nat.le_of_ble_eq_true rfl) (MtX_mono ((h.2 c1).2.1 c6) (fun r m7 hq => ?_))
      obtain ⟨rfl, h8⟩ := hq
      refine ⟨rfl, ?_⟩
      refine a_goto (tgt := 43) dX12_drawn_100 (by decide) ?_
      exact h8
    · refine a_iload dX12_drawn_76 rfl ?_
      refine a_bipush (k := 16) dX12_drawn_78 (by decide) (n_lit (by decide)) ?_
      refine a_iushr dX12_drawn_80 ?_
      refine a_iconst (k := 1) dX12_drawn_81 (n_lit (by decide)) ?_
      refine a_iand dX12_drawn_82 ?_
      refine a_if_ne (tgt := 96) dX12_drawn_83 (by decide) ⟨fun c9 => ?_, fun c9 => ?_⟩
      · refine a_iconst (k := 2) dX12_drawn_96 (n_lit (by decide)) ?_
        refine iv_X12_313 dX12_drawn_97 (Nat.le_of_ble_eq_true rfl) (MtX_mono (((h.2 c1).2.2 c6).1 c9) (fun r m10 hq => ?_))
        obtain ⟨rfl, h11⟩ := hq
        refine ⟨rfl, ?_⟩
        refine a_goto (tgt := 43) dX12_drawn_100 (by decide) ?_
        exact h11
      · refine a_iload dX12_drawn_86 rfl ?_
        refine a_bipush (k := 8) dX12_drawn_88 (by decide) (n_lit (by decide)) ?_
        refine a_iushr dX12_drawn_90 ?_
        refine a_iconst (k := 5) dX12_drawn_91 (n_lit (by decide)) ?_
        refine a_irem dX12_drawn_92 (by decide) ?_
        refine a_goto (tgt := 97) dX12_drawn_93 (by decide) ?_
        refine iv_X12_313 dX12_drawn_97 (Nat.le_of_ble_eq_true rfl) (MtX_mono (((h.2 c1).2.2 c6).2 c9) (fun r m12 hq => ?_))
        obtain ⟨rfl, h13⟩ := hq
        refine ⟨rfl, ?_⟩
        refine a_goto (tgt := 43) dX12_drawn_100 (by decide) ?_
        exact h13
set_option maxRecDepth 10000 in
theorem sg_X12_go_0 {d : Nat} {sx : Option (List Int)} (a1 : Int) (mem : AMem) (Q : Option AV → AMem → Prop) (h : MtX yX12_isShelf cX12_isShelf 1 (some .boolean) d [vi a1] mem (fun r m1 => ∃ x3 : Int, r = some (vi x3) ∧ ((x3 ≠ (0 : Int) → (MtX yX12_rowFault cX12_rowFault 2 (some .int) d [vr 12 0, vi a1] m1 (fun r m5 => ∃ x7 : Int, r = some (vi x7) ∧ (((0 : Int) ≤ x7 → (MtX yX12_goRaid cX12_goRaid 3 none d [vr 12 0, vi a1, vi 60] m5 (fun r m9 => r = none ∧ (MtX yX12_theirsNow cX12_theirsNow 1 (some .int) d [vr 12 0] m9 (fun r m11 => ∃ x13 : Int, r = some (vi x13) ∧ ((0 ≤ (0 : Int) ∧ (0 : Int) < 5) ∧ ((0 ≤ (0 : Int) ∧ (0 : Int) < 5) ∧ ((0 ≤ (1 : Int) ∧ (1 : Int) < 5) ∧ (MtX yX12_pointsNow cX12_pointsNow 1 (some .int) d [vr 12 0] (upM m11 1350 0 0 (w32 ((m11 1350 0 0) + 1))) (fun r m14 => ∃ x16 : Int, r = some (vi x16) ∧ ((0 ≤ (1 : Int) ∧ (1 : Int) < 5) ∧ ((0 ≤ (2 : Int) ∧ (2 : Int) < 5) ∧ ((0 ≤ (2 : Int) ∧ (2 : Int) < 5) ∧ ((0 ≤ (3 : Int) ∧ (3 : Int) < 5) ∧ ((0 ≤ (3 : Int) ∧ (3 : Int) < 5) ∧ (((m14 12 0 32) ≠ (2 : Int) → (Y cX12_go 4 RX12 (d + 1) sx 101 [some (vr 12 0), some (vi a1), some (vi x13), some (vi 0)] [] (upM (upM (upM m14 1350 0 1 (w32 ((m11 1350 0 1) + x16))) 1350 0 2 (w32 ((m14 1350 0 2) + x13))) 1350 0 3 (w32 ((m14 1350 0 3) + (m14 12 0 31)))) Q)) ∧ ((m14 12 0 32) = (2 : Int) → ((0 ≤ (4 : Int) ∧ (4 : Int) < 5) ∧ ((0 ≤ (4 : Int) ∧ (4 : Int) < 5) ∧ (Y cX12_go 4 RX12 (d + 1) sx 101 [some (vr 12 0), some (vi a1), some (vi x13), some (vi 0)] [] (upM (upM (upM (upM m14 1350 0 1 (w32 ((m11 1350 0 1) + x16))) 1350 0 2 (w32 ((m14 1350 0 2) + x13))) 1350 0 3 (w32 ((m14 1350 0 3) + (m14 12 0 31)))) 1350 0 4 (w32 ((m14 1350 0 4) + 1))) Q)))))))))))))))))))) ∧ (¬ (0 : Int) ≤ x7 → (MtX yX12_rowFault cX12_rowFault 2 (some .int) d [vr 12 0, vi a1] m5 (fun r m18 => ∃ x20 : Int, r = some (vi x20) ∧ (Q (some (vi x20)) m18)))))))) ∧ (x3 = (0 : Int) → (Q (some (vi (-1))) m1))))) : Y cX12_go 4 RX12 (d + 1) sx 0 [some (vr 12 0), some (vi a1), none, none] [] mem Q := by
  refine a_iload_n dX12_go_0 rfl rfl ?_
  refine iv_X12_143 dX12_go_1 (Nat.le_of_ble_eq_true rfl) (MtX_mono h (fun r m1 hq => ?_))
  obtain ⟨x3, rfl, h2⟩ := hq
  refine ⟨x3, rfl, ?_⟩
  refine a_if_ne (tgt := 9) dX12_go_4 (by decide) ⟨fun c4 => ?_, fun c4 => ?_⟩
  · refine a_aload_n dX12_go_9 rfl rfl ?_
    refine a_iload_n dX12_go_10 rfl rfl ?_
    refine iv_X12_316 dX12_go_11 (Nat.le_of_ble_eq_true rfl) (MtX_mono (h2.1 c4) (fun r m5 hq => ?_))
    obtain ⟨x7, rfl, h6⟩ := hq
    refine ⟨x7, rfl, ?_⟩
    refine a_if_ge (tgt := 23) dX12_go_14 (by decide) ⟨fun c8 => ?_, fun c8 => ?_⟩
    · refine a_aload_n dX12_go_23 rfl rfl ?_
      refine a_iload_n dX12_go_24 rfl rfl ?_
      refine a_bipush (k := 60) dX12_go_25 (by decide) (n_lit (by decide)) ?_
      refine iv_X12_319 dX12_go_27 (Nat.le_of_ble_eq_true rfl) (MtX_mono (h6.1 c8) (fun r m9 hq => ?_))
      obtain ⟨rfl, h10⟩ := hq
      refine ⟨rfl, ?_⟩
      refine a_aload_n dX12_go_30 rfl rfl ?_
      refine iv_X12_325 dX12_go_31 (Nat.le_of_ble_eq_true rfl) (MtX_mono h10 (fun r m11 hq => ?_))
      obtain ⟨x13, rfl, h12⟩ := hq
      refine ⟨x13, rfl, ?_⟩
      refine a_istore_n dX12_go_34 rfl (by decide) rfl ?_
      refine a_aload_n dX12_go_35 rfl rfl ?_
      refine gf_X12_93 dX12_go_36 ?_
      refine a_iconst (k := 0) dX12_go_39 (n_lit (by decide)) ?_
      refine a_dup2 dX12_go_40 rfl rfl ?_
      refine a_iald rfl rfl (by decide) rfl dX12_go_41 ⟨h12.1, ?_⟩
      refine a_iconst (k := 1) dX12_go_42 (n_lit (by decide)) ?_
      refine a_iadd dX12_go_43 ?_
      refine a_iast rfl rfl (by decide) rfl dX12_go_44 ⟨h12.2.1, ?_⟩
      refine a_aload_n dX12_go_45 rfl rfl ?_
      refine gf_X12_93 dX12_go_46 ?_
      refine a_iconst (k := 1) dX12_go_49 (n_lit (by decide)) ?_
      refine a_dup2 dX12_go_50 rfl rfl ?_
      refine a_iald rfl rfl (by decide) rfl dX12_go_51 ⟨h12.2.2.1, ?_⟩
      refine a_aload_n dX12_go_52 rfl rfl ?_
      refine iv_X12_322 dX12_go_53 (Nat.le_of_ble_eq_true rfl) (MtX_mono h12.2.2.2 (fun r m14 hq => ?_))
      obtain ⟨x16, rfl, h15⟩ := hq
      refine ⟨x16, rfl, ?_⟩
      refine a_iadd dX12_go_56 ?_
      refine a_iast rfl rfl (by decide) rfl dX12_go_57 ⟨h15.1, ?_⟩
      refine a_aload_n dX12_go_58 rfl rfl ?_
      refine gf_X12_93 dX12_go_59 ?_
      refine a_iconst (k := 2) dX12_go_62 (n_lit (by decide)) ?_
      refine a_dup2 dX12_go_63 rfl rfl ?_
      refine a_iald rfl rfl (by decide) rfl dX12_go_64 ⟨h15.2.1, ?_⟩
      refine a_iload_n dX12_go_65 rfl rfl ?_
      refine a_iadd dX12_go_66 ?_
      refine a_iast rfl rfl (by decide) rfl dX12_go_67 ⟨h15.2.2.1, ?_⟩
      refine a_aload_n dX12_go_68 rfl rfl ?_
      refine gf_X12_93 dX12_go_69 ?_
      refine a_iconst (k := 3) dX12_go_72 (n_lit (by decide)) ?_
      refine a_dup2 dX12_go_73 rfl rfl ?_
      refine a_iald rfl rfl (by decide) rfl dX12_go_74 ⟨h15.2.2.2.1, ?_⟩
      refine a_aload_n dX12_go_75 rfl rfl ?_
      refine gf_X12_255 (x := m14 12 0 31) rfl dX12_go_76 ?_
      refine a_iadd dX12_go_79 ?_
      refine a_iast rfl rfl (by decide) rfl dX12_go_80 ⟨h15.2.2.2.2.1, ?_⟩
      refine a_aload_n dX12_go_81 rfl rfl ?_
      refine gf_X12_258 (x := m14 12 0 32) rfl dX12_go_82 ?_
      refine a_iconst (k := 2) dX12_go_85 (n_lit (by decide)) ?_
      refine a_icmp_ne (tgt := 99) dX12_go_86 (by decide) ⟨fun c17 => ?_, fun c17 => ?_⟩
      · refine a_iconst (k := 0) dX12_go_99 (n_lit (by decide)) ?_
        refine a_istore_n dX12_go_100 rfl (by decide) rfl ?_
        exact (h15.2.2.2.2.2.1 c17)
      · refine a_aload_n dX12_go_89 rfl rfl ?_
        refine gf_X12_93 dX12_go_90 ?_
        refine a_iconst (k := 4) dX12_go_93 (n_lit (by decide)) ?_
        refine a_dup2 dX12_go_94 rfl rfl ?_
        refine a_iald rfl rfl (by decide) rfl dX12_go_95 ⟨(h15.2.2.2.2.2.2 c17).1, ?_⟩
        refine a_iconst (k := 1) dX12_go_96 (n_lit (by decide)) ?_
        refine a_iadd dX12_go_97 ?_
        refine a_iast rfl rfl (by decide) rfl dX12_go_98 ⟨(h15.2.2.2.2.2.2 c17).2.1, ?_⟩
        refine a_iconst (k := 0) dX12_go_99 (n_lit (by decide)) ?_
        refine a_istore_n dX12_go_100 rfl (by decide) rfl ?_
        exact (h15.2.2.2.2.2.2 c17).2.2
    · refine a_aload_n dX12_go_17 rfl rfl ?_
      refine a_iload_n dX12_go_18 rfl rfl ?_
      refine iv_X12_316 dX12_go_19 (Nat.le_of_ble_eq_true rfl) (MtX_mono (h6.2 c8) (fun r m18 hq => ?_))
      obtain ⟨x20, rfl, h19⟩ := hq
      refine ⟨x20, rfl, ?_⟩
      exact a_iret dX12_go_22 h19
  · refine a_iconst (k := (-1)) dX12_go_7 (n_lit (by decide)) ?_
    exact a_iret dX12_go_8 (h2.2 c4)
set_option maxRecDepth 10000 in
theorem sg_X12_go_101 {d : Nat} {sx : Option (List Int)} (a1 : Int) (a2 : Int) (a3 : Int) (mem : AMem) (Q : Option AV → AMem → Prop) (h : ((mem 12 0 1) ≤ a3 → (Y cX12_go 4 RX12 (d + 1) sx 144 [some (vr 12 0), some (vi a1), some (vi a2), some (vi 0)] [] mem Q)) ∧ (¬ (mem 12 0 1) ≤ a3 → (((mem 12 0 32) ≠ (1 : Int) → (Y cX12_go 4 RX12 (d + 1) sx 144 [some (vr 12 0), some (vi a1), some (vi a2), some (vi 0)] [] mem Q)) ∧ ((mem 12 0 32) = (1 : Int) → (((an32 (shr32 (mem 12 0 33) a3) 1) ≠ (1 : Int) → (Y cX12_go 4 RX12 (d + 1) sx 101 [some (vr 12 0), some (vi a1), some (vi a2), some (vi (w32 (a3 + 1)))] [] mem Q)) ∧ ((an32 (shr32 (mem 12 0 33) a3) 1) = (1 : Int) → ((0 ≤ a3 ∧ a3 < 7) ∧ (Y cX12_go 4 RX12 (d + 1) sx 101 [some (vr 12 0), some (vi a1), some (vi a2), some (vi (w32 (a3 + 1)))] [] (upM mem 1305 0 a3 0) Q)))))))) : Y cX12_go 4 RX12 (d + 1) sx 101 [some (vr 12 0), some (vi a1), some (vi a2), some (vi a3)] [] mem Q := by
  refine a_iload_n dX12_go_101 rfl rfl ?_
  refine a_aload_n dX12_go_102 rfl rfl ?_
  refine gf_X12_125 (x := mem 12 0 1) rfl dX12_go_103 ?_
  refine a_icmp_ge (tgt := 142) dX12_go_106 (by decide) ⟨fun c1 => ?_, fun c1 => ?_⟩
  · refine a_iconst (k := 0) dX12_go_142 (n_lit (by decide)) ?_
    refine a_istore_n dX12_go_143 rfl (by decide) rfl ?_
    exact (h.1 c1)
  · refine a_aload_n dX12_go_109 rfl rfl ?_
    refine gf_X12_258 (x := mem 12 0 32) rfl dX12_go_110 ?_
    refine a_iconst (k := 1) dX12_go_113 (n_lit (by decide)) ?_
    refine a_icmp_ne (tgt := 142) dX12_go_114 (by decide) ⟨fun c2 => ?_, fun c2 => ?_⟩
    · refine a_iconst (k := 0) dX12_go_142 (n_lit (by decide)) ?_
      refine a_istore_n dX12_go_143 rfl (by decide) rfl ?_
      exact ((h.2 c1).1 c2)
    · refine a_aload_n dX12_go_117 rfl rfl ?_
      refine gf_X12_261 (x := mem 12 0 33) rfl dX12_go_118 ?_
      refine a_iload_n dX12_go_121 rfl rfl ?_
      refine a_ishr dX12_go_122 ?_
      refine a_iconst (k := 1) dX12_go_123 (n_lit (by decide)) ?_
      refine a_iand dX12_go_124 ?_
      refine a_iconst (k := 1) dX12_go_125 (n_lit (by decide)) ?_
      refine a_icmp_ne (tgt := 136) dX12_go_126 (by decide) ⟨fun c3 => ?_, fun c3 => ?_⟩
      · refine a_iinc dX12_go_136 rfl (by decide) rfl ?_
        refine a_goto (tgt := 101) dX12_go_139 (by decide) ?_
        exact (((h.2 c1).2 c2).1 c3)
      · refine a_aload_n dX12_go_129 rfl rfl ?_
        refine gf_X12_19 dX12_go_130 ?_
        refine a_iload_n dX12_go_133 rfl rfl ?_
        refine a_iconst (k := 0) dX12_go_134 (n_lit (by decide)) ?_
        refine a_iast rfl rfl (by decide) rfl dX12_go_135 ⟨(((h.2 c1).2 c2).2 c3).1, ?_⟩
        refine a_iinc dX12_go_136 rfl (by decide) rfl ?_
        refine a_goto (tgt := 101) dX12_go_139 (by decide) ?_
        exact (((h.2 c1).2 c2).2 c3).2
set_option maxRecDepth 10000 in
theorem sg_X12_go_144 {d : Nat} {sx : Option (List Int)} (a1 : Int) (a2 : Int) (a3 : Int) (mem : AMem) (Q : Option AV → AMem → Prop) (h : ((mem 12 0 1) ≤ a3 → (Q (some (vi (mem 12 0 32))) mem)) ∧ (¬ (mem 12 0 1) ≤ a3 → ((a2 ≤ (0 : Int) → (Q (some (vi (mem 12 0 32))) mem)) ∧ (¬ a2 ≤ (0 : Int) → ((0 ≤ a3 ∧ a3 < 7) ∧ (((mem 1305 0 a3) ≠ (1 : Int) → ((0 ≤ a3 ∧ a3 < 7) ∧ (Y cX12_go 4 RX12 (d + 1) sx 144 [some (vr 12 0), some (vi a1), some (vi (w32 (a2 + (-1)))), some (vi (w32 (a3 + 1)))] [] (upM mem 1305 0 a3 1) Q))) ∧ ((mem 1305 0 a3) = (1 : Int) → (Y cX12_go 4 RX12 (d + 1) sx 144 [some (vr 12 0), some (vi a1), some (vi a2), some (vi (w32 (a3 + 1)))] [] mem Q)))))))) : Y cX12_go 4 RX12 (d + 1) sx 144 [some (vr 12 0), some (vi a1), some (vi a2), some (vi a3)] [] mem Q := by
  refine a_iload_n dX12_go_144 rfl rfl ?_
  refine a_aload_n dX12_go_145 rfl rfl ?_
  refine gf_X12_125 (x := mem 12 0 1) rfl dX12_go_146 ?_
  refine a_icmp_ge (tgt := 185) dX12_go_149 (by decide) ⟨fun c1 => ?_, fun c1 => ?_⟩
  · refine a_aload_n dX12_go_185 rfl rfl ?_
    refine gf_X12_258 (x := mem 12 0 32) rfl dX12_go_186 ?_
    exact a_iret dX12_go_189 (h.1 c1)
  · refine a_iload_n dX12_go_152 rfl rfl ?_
    refine a_if_le (tgt := 185) dX12_go_153 (by decide) ⟨fun c2 => ?_, fun c2 => ?_⟩
    · refine a_aload_n dX12_go_185 rfl rfl ?_
      refine gf_X12_258 (x := mem 12 0 32) rfl dX12_go_186 ?_
      exact a_iret dX12_go_189 ((h.2 c1).1 c2)
    · refine a_aload_n dX12_go_156 rfl rfl ?_
      refine gf_X12_19 dX12_go_157 ?_
      refine a_iload_n dX12_go_160 rfl rfl ?_
      refine a_iald rfl rfl (by decide) rfl dX12_go_161 ⟨((h.2 c1).2 c2).1, ?_⟩
      refine a_iconst (k := 1) dX12_go_162 (n_lit (by decide)) ?_
      refine a_icmp_ne (tgt := 169) dX12_go_163 (by decide) ⟨fun c3 => ?_, fun c3 => ?_⟩
      · refine a_aload_n dX12_go_169 rfl rfl ?_
        refine gf_X12_19 dX12_go_170 ?_
        refine a_iload_n dX12_go_173 rfl rfl ?_
        refine a_iconst (k := 1) dX12_go_174 (n_lit (by decide)) ?_
        refine a_iast rfl rfl (by decide) rfl dX12_go_175 ⟨(((h.2 c1).2 c2).2.1 c3).1, ?_⟩
        refine a_iinc dX12_go_176 rfl (by decide) rfl ?_
        refine a_iinc dX12_go_179 rfl (by decide) rfl ?_
        refine a_goto (tgt := 144) dX12_go_182 (by decide) ?_
        exact (((h.2 c1).2 c2).2.1 c3).2
      · refine a_goto (tgt := 179) dX12_go_166 (by decide) ?_
        refine a_iinc dX12_go_179 rfl (by decide) rfl ?_
        refine a_goto (tgt := 144) dX12_go_182 (by decide) ?_
        exact (((h.2 c1).2 c2).2.2 c3)
set_option maxRecDepth 10000 in
theorem sg_X12_allIn_0 {d : Nat} {sx : Option (List Int)}  (mem : AMem) (Q : Option AV → AMem → Prop) (h : Y cX12_allIn 3 RX12 (d + 1) sx 4 [some (vr 12 0), some (vi 0), some (vi 0)] [] mem Q) : Y cX12_allIn 3 RX12 (d + 1) sx 0 [some (vr 12 0), none, none] [] mem Q := by
  refine a_iconst (k := 0) dX12_allIn_0 (n_lit (by decide)) ?_
  refine a_istore_n dX12_allIn_1 rfl (by decide) rfl ?_
  refine a_iconst (k := 0) dX12_allIn_2 (n_lit (by decide)) ?_
  refine a_istore_n dX12_allIn_3 rfl (by decide) rfl ?_
  exact h
set_option maxRecDepth 10000 in
theorem sg_X12_allIn_4 {d : Nat} {sx : Option (List Int)} (a1 : Int) (a2 : Int) (mem : AMem) (Q : Option AV → AMem → Prop) (h : ((mem 12 0 1) ≤ a2 → (Q (some (vi a1)) mem)) ∧ (¬ (mem 12 0 1) ≤ a2 → ((0 ≤ a2 ∧ a2 < 7) ∧ ((0 ≤ a2 ∧ a2 < 7) ∧ (Y cX12_allIn 3 RX12 (d + 1) sx 4 [some (vr 12 0), some (vi (w32 (a1 + (w32 (1 - (mem 1305 0 a2)))))), some (vi (w32 (a2 + 1)))] [] (upM mem 1305 0 a2 1) Q))))) : Y cX12_allIn 3 RX12 (d + 1) sx 4 [some (vr 12 0), some (vi a1), some (vi a2)] [] mem Q := by
  refine a_iload_n dX12_allIn_4 rfl rfl ?_
  refine a_aload_n dX12_allIn_5 rfl rfl ?_
  refine gf_X12_125 (x := mem 12 0 1) rfl dX12_allIn_6 ?_
  refine a_icmp_ge (tgt := 36) dX12_allIn_9 (by decide) ⟨fun c1 => ?_, fun c1 => ?_⟩
  · refine a_iload_n dX12_allIn_36 rfl rfl ?_
    exact a_iret dX12_allIn_37 (h.1 c1)
  · refine a_iload_n dX12_allIn_12 rfl rfl ?_
    refine a_iconst (k := 1) dX12_allIn_13 (n_lit (by decide)) ?_
    refine a_aload_n dX12_allIn_14 rfl rfl ?_
    refine gf_X12_19 dX12_allIn_15 ?_
    refine a_iload_n dX12_allIn_18 rfl rfl ?_
    refine a_iald rfl rfl (by decide) rfl dX12_allIn_19 ⟨(h.2 c1).1, ?_⟩
    refine a_isub dX12_allIn_20 ?_
    refine a_iadd dX12_allIn_21 ?_
    refine a_istore_n dX12_allIn_22 rfl (by decide) rfl ?_
    refine a_aload_n dX12_allIn_23 rfl rfl ?_
    refine gf_X12_19 dX12_allIn_24 ?_
    refine a_iload_n dX12_allIn_27 rfl rfl ?_
    refine a_iconst (k := 1) dX12_allIn_28 (n_lit (by decide)) ?_
    refine a_iast rfl rfl (by decide) rfl dX12_allIn_29 ⟨(h.2 c1).2.1, ?_⟩
    refine a_iinc dX12_allIn_30 rfl (by decide) rfl ?_
    refine a_goto (tgt := 4) dX12_allIn_33 (by decide) ?_
    exact (h.2 c1).2.2
set_option maxRecDepth 10000 in
theorem sg_X12_led_0 {d : Nat} {sx : Option (List Int)} (a1 : Int) (mem : AMem) (Q : Option AV → AMem → Prop) (h : MtX yX12_in cX12_in 3 (some .boolean) d [vi a1, vi 0, vi 4] mem (fun r m1 => ∃ x3 : Int, r = some (vi x3) ∧ ((x3 = (0 : Int) → (Q (some (vi (-1))) m1)) ∧ (¬ x3 = (0 : Int) → ((0 ≤ a1 ∧ a1 < 5) ∧ (Q (some (vi (m1 1350 0 a1))) m1)))))) : Y cX12_led 2 RX12 (d + 1) sx 0 [some (vr 12 0), some (vi a1)] [] mem Q := by
  refine a_iload_n dX12_led_0 rfl rfl ?_
  refine a_iconst (k := 0) dX12_led_1 (n_lit (by decide)) ?_
  refine a_iconst (k := 4) dX12_led_2 (n_lit (by decide)) ?_
  refine iv_X12_128 dX12_led_3 (Nat.le_of_ble_eq_true rfl) (MtX_mono h (fun r m1 hq => ?_))
  obtain ⟨x3, rfl, h2⟩ := hq
  refine ⟨x3, rfl, ?_⟩
  refine a_if_eq (tgt := 18) dX12_led_6 (by decide) ⟨fun c4 => ?_, fun c4 => ?_⟩
  · refine a_iconst (k := (-1)) dX12_led_18 (n_lit (by decide)) ?_
    exact a_iret dX12_led_19 (h2.1 c4)
  · refine a_aload_n dX12_led_9 rfl rfl ?_
    refine gf_X12_93 dX12_led_10 ?_
    refine a_iload_n dX12_led_13 rfl rfl ?_
    refine a_iald rfl rfl (by decide) rfl dX12_led_14 ⟨(h2.2 c4).1, ?_⟩
    refine a_goto (tgt := 19) dX12_led_15 (by decide) ?_
    exact a_iret dX12_led_19 (h2.2 c4).2
set_option maxRecDepth 10000 in
theorem sg_X12_image_0 {d : Nat} {sx : Option (List Int)}  (mem : AMem) (Q : Option AV → AMem → Prop) (h : Y cX12_image 2 RX12 (d + 1) sx 15 [some (vr 12 0), some (vi 0)] [] (upM (upM mem 12 0 51 1) 12 0 52 (mem 12 0 1)) Q) : Y cX12_image 2 RX12 (d + 1) sx 0 [some (vr 12 0), none] [] mem Q := by
  refine a_aload_n dX12_image_0 rfl rfl ?_
  refine a_iconst (k := 1) dX12_image_1 (n_lit (by decide)) ?_
  refine pf_X12_412 (Or.inr rfl) dX12_image_2 ?_
  refine a_aload_n dX12_image_5 rfl rfl ?_
  refine a_aload_n dX12_image_6 rfl rfl ?_
  refine gf_X12_125 (x := mem 12 0 1) rfl dX12_image_7 ?_
  refine pf_X12_415 dX12_image_10 ?_
  refine a_iconst (k := 0) dX12_image_13 (n_lit (by decide)) ?_
  refine a_istore_n dX12_image_14 rfl (by decide) rfl ?_
  exact h
set_option maxRecDepth 10000 in
theorem sg_X12_image_15 {d : Nat} {sx : Option (List Int)} (a1 : Int) (mem : AMem) (Q : Option AV → AMem → Prop) (h : ((mem 12 0 1) ≤ a1 → (Y cX12_image 2 RX12 (d + 1) sx 43 [some (vr 12 0), some (vi 0)] [] mem Q)) ∧ (¬ (mem 12 0 1) ≤ a1 → ((0 ≤ a1 ∧ a1 < 7) ∧ ((0 ≤ a1 ∧ a1 < 7) ∧ (Y cX12_image 2 RX12 (d + 1) sx 15 [some (vr 12 0), some (vi (w32 (a1 + 1)))] [] (upM mem 1353 0 a1 (mem 1305 0 a1)) Q))))) : Y cX12_image 2 RX12 (d + 1) sx 15 [some (vr 12 0), some (vi a1)] [] mem Q := by
  refine a_iload_n dX12_image_15 rfl rfl ?_
  refine a_aload_n dX12_image_16 rfl rfl ?_
  refine gf_X12_125 (x := mem 12 0 1) rfl dX12_image_17 ?_
  refine a_icmp_ge (tgt := 41) dX12_image_20 (by decide) ⟨fun c1 => ?_, fun c1 => ?_⟩
  · refine a_iconst (k := 0) dX12_image_41 (n_lit (by decide)) ?_
    refine a_istore_n dX12_image_42 rfl (by decide) rfl ?_
    exact (h.1 c1)
  · refine a_aload_n dX12_image_23 rfl rfl ?_
    refine gf_X12_96 dX12_image_24 ?_
    refine a_iload_n dX12_image_27 rfl rfl ?_
    refine a_aload_n dX12_image_28 rfl rfl ?_
    refine gf_X12_19 dX12_image_29 ?_
    refine a_iload_n dX12_image_32 rfl rfl ?_
    refine a_iald rfl rfl (by decide) rfl dX12_image_33 ⟨(h.2 c1).1, ?_⟩
    refine a_iast rfl rfl (by decide) rfl dX12_image_34 ⟨(h.2 c1).2.1, ?_⟩
    refine a_iinc dX12_image_35 rfl (by decide) rfl ?_
    refine a_goto (tgt := 15) dX12_image_38 (by decide) ?_
    exact (h.2 c1).2.2
set_option maxRecDepth 10000 in
theorem sg_X12_image_43 {d : Nat} {sx : Option (List Int)} (a1 : Int) (mem : AMem) (Q : Option AV → AMem → Prop) (h : ((5 : Int) ≤ a1 → ((0 ≤ (0 : Int) ∧ (0 : Int) < 5) ∧ (Q (some (vi (mem 1350 0 0))) mem))) ∧ (¬ (5 : Int) ≤ a1 → ((0 ≤ a1 ∧ a1 < 5) ∧ ((0 ≤ a1 ∧ a1 < 5) ∧ (Y cX12_image 2 RX12 (d + 1) sx 43 [some (vr 12 0), some (vi (w32 (a1 + 1)))] [] (upM mem 1354 0 a1 (mem 1350 0 a1)) Q))))) : Y cX12_image 2 RX12 (d + 1) sx 43 [some (vr 12 0), some (vi a1)] [] mem Q := by
  refine a_iload_n dX12_image_43 rfl rfl ?_
  refine a_iconst (k := 5) dX12_image_44 (n_lit (by decide)) ?_
  refine a_icmp_ge (tgt := 66) dX12_image_45 (by decide) ⟨fun c1 => ?_, fun c1 => ?_⟩
  · refine a_aload_n dX12_image_66 rfl rfl ?_
    refine gf_X12_93 dX12_image_67 ?_
    refine a_iconst (k := 0) dX12_image_70 (n_lit (by decide)) ?_
    refine a_iald rfl rfl (by decide) rfl dX12_image_71 ⟨(h.1 c1).1, ?_⟩
    exact a_iret dX12_image_72 (h.1 c1).2
  · refine a_aload_n dX12_image_48 rfl rfl ?_
    refine gf_X12_99 dX12_image_49 ?_
    refine a_iload_n dX12_image_52 rfl rfl ?_
    refine a_aload_n dX12_image_53 rfl rfl ?_
    refine gf_X12_93 dX12_image_54 ?_
    refine a_iload_n dX12_image_57 rfl rfl ?_
    refine a_iald rfl rfl (by decide) rfl dX12_image_58 ⟨(h.2 c1).1, ?_⟩
    refine a_iast rfl rfl (by decide) rfl dX12_image_59 ⟨(h.2 c1).2.1, ?_⟩
    refine a_iinc dX12_image_60 rfl (by decide) rfl ?_
    refine a_goto (tgt := 43) dX12_image_63 (by decide) ?_
    exact (h.2 c1).2.2
set_option maxRecDepth 10000 in
theorem sg_X12_back_0 {d : Nat} {sx : Option (List Int)}  (mem : AMem) (Q : Option AV → AMem → Prop) (h : ((mem 12 0 51) ≠ (0 : Int) → (Y cX12_back 2 RX12 (d + 1) sx 12 [some (vr 12 0), some (vi 0)] [] mem Q)) ∧ ((mem 12 0 51) = (0 : Int) → (Q (some (vi (-5))) mem))) : Y cX12_back 2 RX12 (d + 1) sx 0 [some (vr 12 0), none] [] mem Q := by
  refine a_aload_n dX12_back_0 rfl rfl ?_
  refine gf_X12_412 (x := mem 12 0 51) rfl dX12_back_1 ?_
  refine a_if_ne (tgt := 10) dX12_back_4 (by decide) ⟨fun c1 => ?_, fun c1 => ?_⟩
  · refine a_iconst (k := 0) dX12_back_10 (n_lit (by decide)) ?_
    refine a_istore_n dX12_back_11 rfl (by decide) rfl ?_
    exact (h.1 c1)
  · refine a_bipush (k := (-5)) dX12_back_7 (by decide) (n_lit (by decide)) ?_
    exact a_iret dX12_back_9 (h.2 c1)
set_option maxRecDepth 10000 in
theorem sg_X12_back_12 {d : Nat} {sx : Option (List Int)} (a1 : Int) (mem : AMem) (Q : Option AV → AMem → Prop) (h : ((mem 12 0 52) ≤ a1 → (Y cX12_back 2 RX12 (d + 1) sx 40 [some (vr 12 0), some (vi 0)] [] mem Q)) ∧ (¬ (mem 12 0 52) ≤ a1 → ((0 ≤ a1 ∧ a1 < 7) ∧ ((0 ≤ a1 ∧ a1 < 7) ∧ (Y cX12_back 2 RX12 (d + 1) sx 12 [some (vr 12 0), some (vi (w32 (a1 + 1)))] [] (upM mem 1305 0 a1 (mem 1353 0 a1)) Q))))) : Y cX12_back 2 RX12 (d + 1) sx 12 [some (vr 12 0), some (vi a1)] [] mem Q := by
  refine a_iload_n dX12_back_12 rfl rfl ?_
  refine a_aload_n dX12_back_13 rfl rfl ?_
  refine gf_X12_415 (x := mem 12 0 52) rfl dX12_back_14 ?_
  refine a_icmp_ge (tgt := 38) dX12_back_17 (by decide) ⟨fun c1 => ?_, fun c1 => ?_⟩
  · refine a_iconst (k := 0) dX12_back_38 (n_lit (by decide)) ?_
    refine a_istore_n dX12_back_39 rfl (by decide) rfl ?_
    exact (h.1 c1)
  · refine a_aload_n dX12_back_20 rfl rfl ?_
    refine gf_X12_19 dX12_back_21 ?_
    refine a_iload_n dX12_back_24 rfl rfl ?_
    refine a_aload_n dX12_back_25 rfl rfl ?_
    refine gf_X12_96 dX12_back_26 ?_
    refine a_iload_n dX12_back_29 rfl rfl ?_
    refine a_iald rfl rfl (by decide) rfl dX12_back_30 ⟨(h.2 c1).1, ?_⟩
    refine a_iast rfl rfl (by decide) rfl dX12_back_31 ⟨(h.2 c1).2.1, ?_⟩
    refine a_iinc dX12_back_32 rfl (by decide) rfl ?_
    refine a_goto (tgt := 12) dX12_back_35 (by decide) ?_
    exact (h.2 c1).2.2
set_option maxRecDepth 10000 in
theorem sg_X12_back_40 {d : Nat} {sx : Option (List Int)} (a1 : Int) (mem : AMem) (Q : Option AV → AMem → Prop) (h : ((5 : Int) ≤ a1 → ((0 ≤ (0 : Int) ∧ (0 : Int) < 5) ∧ (Q (some (vi (mem 1350 0 0))) mem))) ∧ (¬ (5 : Int) ≤ a1 → ((0 ≤ a1 ∧ a1 < 5) ∧ ((0 ≤ a1 ∧ a1 < 5) ∧ (Y cX12_back 2 RX12 (d + 1) sx 40 [some (vr 12 0), some (vi (w32 (a1 + 1)))] [] (upM mem 1350 0 a1 (mem 1354 0 a1)) Q))))) : Y cX12_back 2 RX12 (d + 1) sx 40 [some (vr 12 0), some (vi a1)] [] mem Q := by
  refine a_iload_n dX12_back_40 rfl rfl ?_
  refine a_iconst (k := 5) dX12_back_41 (n_lit (by decide)) ?_
  refine a_icmp_ge (tgt := 63) dX12_back_42 (by decide) ⟨fun c1 => ?_, fun c1 => ?_⟩
  · refine a_aload_n dX12_back_63 rfl rfl ?_
    refine gf_X12_93 dX12_back_64 ?_
    refine a_iconst (k := 0) dX12_back_67 (n_lit (by decide)) ?_
    refine a_iald rfl rfl (by decide) rfl dX12_back_68 ⟨(h.1 c1).1, ?_⟩
    exact a_iret dX12_back_69 (h.1 c1).2
  · refine a_aload_n dX12_back_45 rfl rfl ?_
    refine gf_X12_93 dX12_back_46 ?_
    refine a_iload_n dX12_back_49 rfl rfl ?_
    refine a_aload_n dX12_back_50 rfl rfl ?_
    refine gf_X12_99 dX12_back_51 ?_
    refine a_iload_n dX12_back_54 rfl rfl ?_
    refine a_iald rfl rfl (by decide) rfl dX12_back_55 ⟨(h.2 c1).1, ?_⟩
    refine a_iast rfl rfl (by decide) rfl dX12_back_56 ⟨(h.2 c1).2.1, ?_⟩
    refine a_iinc dX12_back_57 rfl (by decide) rfl ?_
    refine a_goto (tgt := 40) dX12_back_60 (by decide) ?_
    exact (h.2 c1).2.2
set_option maxRecDepth 10000 in
theorem sg_X12_isBody_0 {d : Nat} {sx : Option (List Int)} (a1 : Int) (mem : AMem) (Q : Option AV → AMem → Prop) (h : MtX yX12_in cX12_in 3 (some .boolean) d [vi a1, vi 0, vi (w32 ((mem 12 0 55) - 1))] mem (fun r m1 => ∃ x3 : Int, r = some (vi x3) ∧ (Q (some (vi x3)) m1))) : Y cX12_isBody 2 RX12 (d + 1) sx 0 [some (vr 12 0), some (vi a1)] [] mem Q := by
  refine a_iload_n dX12_isBody_0 rfl rfl ?_
  refine a_iconst (k := 0) dX12_isBody_1 (n_lit (by decide)) ?_
  refine a_aload_n dX12_isBody_2 rfl rfl ?_
  refine gf_X12_418 (x := mem 12 0 55) rfl dX12_isBody_3 ?_
  refine a_iconst (k := 1) dX12_isBody_6 (n_lit (by decide)) ?_
  refine a_isub dX12_isBody_7 ?_
  refine iv_X12_128 dX12_isBody_8 (Nat.le_of_ble_eq_true rfl) (MtX_mono h (fun r m1 hq => ?_))
  obtain ⟨x3, rfl, h2⟩ := hq
  refine ⟨x3, rfl, ?_⟩
  exact a_iret dX12_isBody_11 h2
set_option maxRecDepth 10000 in
theorem sg_X12_ran_0 {d : Nat} {sx : Option (List Int)} (a1 : Int) (mem : AMem) (Q : Option AV → AMem → Prop) (h : ((24 : Int) ≤ (mem 12 0 57) → (Q none (upM mem 12 0 57 (w32 ((mem 12 0 57) + 1))))) ∧ (¬ (24 : Int) ≤ (mem 12 0 57) → ((0 ≤ (mem 12 0 57) ∧ (mem 12 0 57) < 24) ∧ (Q none (upM (upM mem 1358 0 (mem 12 0 57) a1) 12 0 57 (w32 ((mem 12 0 57) + 1))))))) : Y cX12_ran 2 RX12 (d + 1) sx 0 [some (vr 12 0), some (vi a1)] [] mem Q := by
  refine a_aload_n dX12_ran_0 rfl rfl ?_
  refine gf_X12_421 (x := mem 12 0 57) rfl dX12_ran_1 ?_
  refine a_bipush (k := 24) dX12_ran_4 (by decide) (n_lit (by decide)) ?_
  refine a_icmp_ge (tgt := 19) dX12_ran_6 (by decide) ⟨fun c1 => ?_, fun c1 => ?_⟩
  · refine a_aload_n dX12_ran_19 rfl rfl ?_
    refine a_dup dX12_ran_20 rfl ?_
    refine gf_X12_421 (x := mem 12 0 57) rfl dX12_ran_21 ?_
    refine a_iconst (k := 1) dX12_ran_24 (n_lit (by decide)) ?_
    refine a_iadd dX12_ran_25 ?_
    refine pf_X12_421 dX12_ran_26 ?_
    exact a_vret dX12_ran_29 (h.1 c1)
  · refine a_aload_n dX12_ran_9 rfl rfl ?_
    refine gf_X12_105 dX12_ran_10 ?_
    refine a_aload_n dX12_ran_13 rfl rfl ?_
    refine gf_X12_421 (x := mem 12 0 57) rfl dX12_ran_14 ?_
    refine a_iload_n dX12_ran_17 rfl rfl ?_
    refine a_iast rfl rfl (by decide) rfl dX12_ran_18 ⟨(h.2 c1).1, ?_⟩
    refine a_aload_n dX12_ran_19 rfl rfl ?_
    refine a_dup dX12_ran_20 rfl ?_
    refine gf_X12_421 (x := mem 12 0 57) rfl dX12_ran_21 ?_
    refine a_iconst (k := 1) dX12_ran_24 (n_lit (by decide)) ?_
    refine a_iadd dX12_ran_25 ?_
    refine pf_X12_421 dX12_ran_26 ?_
    exact a_vret dX12_ran_29 (h.2 c1).2
set_option maxRecDepth 10000 in
theorem sg_X12_trace_0 {d : Nat} {sx : Option (List Int)} (a1 : Int) (mem : AMem) (Q : Option AV → AMem → Prop) (h : (a1 < (0 : Int) → (Q (some (vi (-1))) mem)) ∧ (¬ a1 < (0 : Int) → (((mem 12 0 57) ≤ a1 → (Q (some (vi (-1))) mem)) ∧ (¬ (mem 12 0 57) ≤ a1 → (((24 : Int) ≤ a1 → (Q (some (vi (-1))) mem)) ∧ (¬ (24 : Int) ≤ a1 → ((0 ≤ a1 ∧ a1 < 24) ∧ (Q (some (vi (mem 1358 0 a1))) mem)))))))) : Y cX12_trace 2 RX12 (d + 1) sx 0 [some (vr 12 0), some (vi a1)] [] mem Q := by
  refine a_iload_n dX12_trace_0 rfl rfl ?_
  refine a_if_lt (tgt := 27) dX12_trace_1 (by decide) ⟨fun c1 => ?_, fun c1 => ?_⟩
  · refine a_iconst (k := (-1)) dX12_trace_27 (n_lit (by decide)) ?_
    exact a_iret dX12_trace_28 (h.1 c1)
  · refine a_iload_n dX12_trace_4 rfl rfl ?_
    refine a_aload_n dX12_trace_5 rfl rfl ?_
    refine gf_X12_421 (x := mem 12 0 57) rfl dX12_trace_6 ?_
    refine a_icmp_ge (tgt := 27) dX12_trace_9 (by decide) ⟨fun c2 => ?_, fun c2 => ?_⟩
    · refine a_iconst (k := (-1)) dX12_trace_27 (n_lit (by decide)) ?_
      exact a_iret dX12_trace_28 ((h.2 c1).1 c2)
    · refine a_iload_n dX12_trace_12 rfl rfl ?_
      refine a_bipush (k := 24) dX12_trace_13 (by decide) (n_lit (by decide)) ?_
      refine a_icmp_ge (tgt := 27) dX12_trace_15 (by decide) ⟨fun c3 => ?_, fun c3 => ?_⟩
      · refine a_iconst (k := (-1)) dX12_trace_27 (n_lit (by decide)) ?_
        exact a_iret dX12_trace_28 (((h.2 c1).2 c2).1 c3)
      · refine a_aload_n dX12_trace_18 rfl rfl ?_
        refine gf_X12_105 dX12_trace_19 ?_
        refine a_iload_n dX12_trace_22 rfl rfl ?_
        refine a_iald rfl rfl (by decide) rfl dX12_trace_23 ⟨(((h.2 c1).2 c2).2 c3).1, ?_⟩
        refine a_goto (tgt := 28) dX12_trace_24 (by decide) ?_
        exact a_iret dX12_trace_28 (((h.2 c1).2 c2).2 c3).2
set_option maxRecDepth 10000 in
theorem sg_X12_body_0 {d : Nat} {sx : Option (List Int)} (a1 : Int) (mem : AMem) (Q : Option AV → AMem → Prop) (h : MtX yX12_in cX12_in 3 (some .boolean) d [vi a1, vi 0, vi 7] mem (fun r m1 => ∃ x3 : Int, r = some (vi x3) ∧ ((x3 ≠ (0 : Int) → (((m1 12 0 55) ≠ (50 : Int) → ((0 ≤ (m1 12 0 55) ∧ (m1 12 0 55) < 50) ∧ (Q (some (vi (w32 ((w32 ((m1 12 0 55) + 1)) - 1)))) (upM (upM m1 1356 0 (m1 12 0 55) a1) 12 0 55 (w32 ((m1 12 0 55) + 1)))))) ∧ ((m1 12 0 55) = (50 : Int) → (Q (some (vi (-3))) m1)))) ∧ (x3 = (0 : Int) → (Q (some (vi (-1))) m1))))) : Y cX12_body 2 RX12 (d + 1) sx 0 [some (vr 12 0), some (vi a1)] [] mem Q := by
  refine a_iload_n dX12_body_0 rfl rfl ?_
  refine a_iconst (k := 0) dX12_body_1 (n_lit (by decide)) ?_
  refine a_bipush (k := 7) dX12_body_2 (by decide) (n_lit (by decide)) ?_
  refine iv_X12_128 dX12_body_4 (Nat.le_of_ble_eq_true rfl) (MtX_mono h (fun r m1 hq => ?_))
  obtain ⟨x3, rfl, h2⟩ := hq
  refine ⟨x3, rfl, ?_⟩
  refine a_if_ne (tgt := 12) dX12_body_7 (by decide) ⟨fun c4 => ?_, fun c4 => ?_⟩
  · refine a_aload_n dX12_body_12 rfl rfl ?_
    refine gf_X12_418 (x := m1 12 0 55) rfl dX12_body_13 ?_
    refine a_bipush (k := 50) dX12_body_16 (by decide) (n_lit (by decide)) ?_
    refine a_icmp_ne (tgt := 24) dX12_body_18 (by decide) ⟨fun c5 => ?_, fun c5 => ?_⟩
    · refine a_aload_n dX12_body_24 rfl rfl ?_
      refine gf_X12_102 dX12_body_25 ?_
      refine a_aload_n dX12_body_28 rfl rfl ?_
      refine gf_X12_418 (x := m1 12 0 55) rfl dX12_body_29 ?_
      refine a_iload_n dX12_body_32 rfl rfl ?_
      refine a_iast rfl rfl (by decide) rfl dX12_body_33 ⟨((h2.1 c4).1 c5).1, ?_⟩
      refine a_aload_n dX12_body_34 rfl rfl ?_
      refine a_dup dX12_body_35 rfl ?_
      refine gf_X12_418 (x := m1 12 0 55) rfl dX12_body_36 ?_
      refine a_iconst (k := 1) dX12_body_39 (n_lit (by decide)) ?_
      refine a_iadd dX12_body_40 ?_
      refine pf_X12_418 dX12_body_41 ?_
      refine a_aload_n dX12_body_44 rfl rfl ?_
      refine gf_X12_418 (x := w32 ((m1 12 0 55) + 1)) rfl dX12_body_45 ?_
      refine a_iconst (k := 1) dX12_body_48 (n_lit (by decide)) ?_
      refine a_isub dX12_body_49 ?_
      exact a_iret dX12_body_50 ((h2.1 c4).1 c5).2
    · refine a_bipush (k := (-3)) dX12_body_21 (by decide) (n_lit (by decide)) ?_
      exact a_iret dX12_body_23 ((h2.1 c4).2 c5)
  · refine a_iconst (k := (-1)) dX12_body_10 (n_lit (by decide)) ?_
    exact a_iret dX12_body_11 (h2.2 c4)
set_option maxRecDepth 10000 in
theorem sg_X12_isUnder_0 {d : Nat} {sx : Option (List Int)} (a0 : Int) (a1 : Int) (mem : AMem) (Q : Option AV → AMem → Prop) (h : (a1 = (0 : Int) → (Q (some (vi 1)) mem)) ∧ (¬ a1 = (0 : Int) → ((a0 = a1 → (Q (some (vi 1)) mem)) ∧ (¬ a0 = a1 → ((a1 ≠ (1 : Int) → (Y cX12_isUnder 2 RX12 (d + 1) sx 19 [some (vi a0), some (vi a1)] [] mem Q)) ∧ (a1 = (1 : Int) → ((a0 = (4 : Int) → (Q (some (vi 1)) mem)) ∧ (¬ a0 = (4 : Int) → (Y cX12_isUnder 2 RX12 (d + 1) sx 19 [some (vi a0), some (vi a1)] [] mem Q))))))))) : Y cX12_isUnder 2 RX12 (d + 1) sx 0 [some (vi a0), some (vi a1)] [] mem Q := by
  refine a_iload_n dX12_isUnder_0 rfl rfl ?_
  refine a_if_eq (tgt := 56) dX12_isUnder_1 (by decide) ⟨fun c1 => ?_, fun c1 => ?_⟩
  · refine a_iconst (k := 1) dX12_isUnder_56 (n_lit (by decide)) ?_
    refine a_goto (tgt := 61) dX12_isUnder_57 (by decide) ?_
    exact a_iret dX12_isUnder_61 (h.1 c1)
  · refine a_iload_n dX12_isUnder_4 rfl rfl ?_
    refine a_iload_n dX12_isUnder_5 rfl rfl ?_
    refine a_icmp_eq (tgt := 56) dX12_isUnder_6 (by decide) ⟨fun c2 => ?_, fun c2 => ?_⟩
    · refine a_iconst (k := 1) dX12_isUnder_56 (n_lit (by decide)) ?_
      refine a_goto (tgt := 61) dX12_isUnder_57 (by decide) ?_
      exact a_iret dX12_isUnder_61 ((h.2 c1).1 c2)
    · refine a_iload_n dX12_isUnder_9 rfl rfl ?_
      refine a_iconst (k := 1) dX12_isUnder_10 (n_lit (by decide)) ?_
      refine a_icmp_ne (tgt := 19) dX12_isUnder_11 (by decide) ⟨fun c3 => ?_, fun c3 => ?_⟩
      · exact (((h.2 c1).2 c2).1 c3)
      · refine a_iload_n dX12_isUnder_14 rfl rfl ?_
        refine a_iconst (k := 4) dX12_isUnder_15 (n_lit (by decide)) ?_
        refine a_icmp_eq (tgt := 56) dX12_isUnder_16 (by decide) ⟨fun c4 => ?_, fun c4 => ?_⟩
        · refine a_iconst (k := 1) dX12_isUnder_56 (n_lit (by decide)) ?_
          refine a_goto (tgt := 61) dX12_isUnder_57 (by decide) ?_
          exact a_iret dX12_isUnder_61 ((((h.2 c1).2 c2).2 c3).1 c4)
        · exact ((((h.2 c1).2 c2).2 c3).2 c4)
set_option maxRecDepth 10000 in
theorem sg_X12_isUnder_19 {d : Nat} {sx : Option (List Int)} (a0 : Int) (a1 : Int) (mem : AMem) (Q : Option AV → AMem → Prop) (h : (a1 ≠ (2 : Int) → (Y cX12_isUnder 2 RX12 (d + 1) sx 34 [some (vi a0), some (vi a1)] [] mem Q)) ∧ (a1 = (2 : Int) → ((a0 = (3 : Int) → (Q (some (vi 1)) mem)) ∧ (¬ a0 = (3 : Int) → ((a0 = (5 : Int) → (Q (some (vi 1)) mem)) ∧ (¬ a0 = (5 : Int) → (Y cX12_isUnder 2 RX12 (d + 1) sx 34 [some (vi a0), some (vi a1)] [] mem Q))))))) : Y cX12_isUnder 2 RX12 (d + 1) sx 19 [some (vi a0), some (vi a1)] [] mem Q := by
  refine a_iload_n dX12_isUnder_19 rfl rfl ?_
  refine a_iconst (k := 2) dX12_isUnder_20 (n_lit (by decide)) ?_
  refine a_icmp_ne (tgt := 34) dX12_isUnder_21 (by decide) ⟨fun c1 => ?_, fun c1 => ?_⟩
  · exact (h.1 c1)
  · refine a_iload_n dX12_isUnder_24 rfl rfl ?_
    refine a_iconst (k := 3) dX12_isUnder_25 (n_lit (by decide)) ?_
    refine a_icmp_eq (tgt := 56) dX12_isUnder_26 (by decide) ⟨fun c2 => ?_, fun c2 => ?_⟩
    · refine a_iconst (k := 1) dX12_isUnder_56 (n_lit (by decide)) ?_
      refine a_goto (tgt := 61) dX12_isUnder_57 (by decide) ?_
      exact a_iret dX12_isUnder_61 ((h.2 c1).1 c2)
    · refine a_iload_n dX12_isUnder_29 rfl rfl ?_
      refine a_iconst (k := 5) dX12_isUnder_30 (n_lit (by decide)) ?_
      refine a_icmp_eq (tgt := 56) dX12_isUnder_31 (by decide) ⟨fun c3 => ?_, fun c3 => ?_⟩
      · refine a_iconst (k := 1) dX12_isUnder_56 (n_lit (by decide)) ?_
        refine a_goto (tgt := 61) dX12_isUnder_57 (by decide) ?_
        exact a_iret dX12_isUnder_61 (((h.2 c1).2 c2).1 c3)
      · exact (((h.2 c1).2 c2).2 c3)
set_option maxRecDepth 10000 in
theorem sg_X12_isUnder_34 {d : Nat} {sx : Option (List Int)} (a0 : Int) (a1 : Int) (mem : AMem) (Q : Option AV → AMem → Prop) (h : (a1 ≠ (3 : Int) → ((a1 ≠ (6 : Int) → (Q (some (vi 0)) mem)) ∧ (a1 = (6 : Int) → ((a0 ≠ (7 : Int) → (Q (some (vi 0)) mem)) ∧ (a0 = (7 : Int) → (Q (some (vi 1)) mem)))))) ∧ (a1 = (3 : Int) → ((a0 = (5 : Int) → (Q (some (vi 1)) mem)) ∧ (¬ a0 = (5 : Int) → ((a1 ≠ (6 : Int) → (Q (some (vi 0)) mem)) ∧ (a1 = (6 : Int) → ((a0 ≠ (7 : Int) → (Q (some (vi 0)) mem)) ∧ (a0 = (7 : Int) → (Q (some (vi 1)) mem))))))))) : Y cX12_isUnder 2 RX12 (d + 1) sx 34 [some (vi a0), some (vi a1)] [] mem Q := by
  refine a_iload_n dX12_isUnder_34 rfl rfl ?_
  refine a_iconst (k := 3) dX12_isUnder_35 (n_lit (by decide)) ?_
  refine a_icmp_ne (tgt := 44) dX12_isUnder_36 (by decide) ⟨fun c1 => ?_, fun c1 => ?_⟩
  · refine a_iload_n dX12_isUnder_44 rfl rfl ?_
    refine a_bipush (k := 6) dX12_isUnder_45 (by decide) (n_lit (by decide)) ?_
    refine a_icmp_ne (tgt := 60) dX12_isUnder_47 (by decide) ⟨fun c2 => ?_, fun c2 => ?_⟩
    · refine a_iconst (k := 0) dX12_isUnder_60 (n_lit (by decide)) ?_
      exact a_iret dX12_isUnder_61 ((h.1 c1).1 c2)
    · refine a_iload_n dX12_isUnder_50 rfl rfl ?_
      refine a_bipush (k := 7) dX12_isUnder_51 (by decide) (n_lit (by decide)) ?_
      refine a_icmp_ne (tgt := 60) dX12_isUnder_53 (by decide) ⟨fun c3 => ?_, fun c3 => ?_⟩
      · refine a_iconst (k := 0) dX12_isUnder_60 (n_lit (by decide)) ?_
        exact a_iret dX12_isUnder_61 (((h.1 c1).2 c2).1 c3)
      · refine a_iconst (k := 1) dX12_isUnder_56 (n_lit (by decide)) ?_
        refine a_goto (tgt := 61) dX12_isUnder_57 (by decide) ?_
        exact a_iret dX12_isUnder_61 (((h.1 c1).2 c2).2 c3)
  · refine a_iload_n dX12_isUnder_39 rfl rfl ?_
    refine a_iconst (k := 5) dX12_isUnder_40 (n_lit (by decide)) ?_
    refine a_icmp_eq (tgt := 56) dX12_isUnder_41 (by decide) ⟨fun c4 => ?_, fun c4 => ?_⟩
    · refine a_iconst (k := 1) dX12_isUnder_56 (n_lit (by decide)) ?_
      refine a_goto (tgt := 61) dX12_isUnder_57 (by decide) ?_
      exact a_iret dX12_isUnder_61 ((h.2 c1).1 c4)
    · refine a_iload_n dX12_isUnder_44 rfl rfl ?_
      refine a_bipush (k := 6) dX12_isUnder_45 (by decide) (n_lit (by decide)) ?_
      refine a_icmp_ne (tgt := 60) dX12_isUnder_47 (by decide) ⟨fun c5 => ?_, fun c5 => ?_⟩
      · refine a_iconst (k := 0) dX12_isUnder_60 (n_lit (by decide)) ?_
        exact a_iret dX12_isUnder_61 (((h.2 c1).2 c4).1 c5)
      · refine a_iload_n dX12_isUnder_50 rfl rfl ?_
        refine a_bipush (k := 7) dX12_isUnder_51 (by decide) (n_lit (by decide)) ?_
        refine a_icmp_ne (tgt := 60) dX12_isUnder_53 (by decide) ⟨fun c6 => ?_, fun c6 => ?_⟩
        · refine a_iconst (k := 0) dX12_isUnder_60 (n_lit (by decide)) ?_
          exact a_iret dX12_isUnder_61 ((((h.2 c1).2 c4).2 c5).1 c6)
        · refine a_iconst (k := 1) dX12_isUnder_56 (n_lit (by decide)) ?_
          refine a_goto (tgt := 61) dX12_isUnder_57 (by decide) ?_
          exact a_iret dX12_isUnder_61 ((((h.2 c1).2 c4).2 c5).2 c6)
set_option maxRecDepth 10000 in
theorem sg_X12_plainGoes_0 {d : Nat} {sx : Option (List Int)} (a1 : Int) (a2 : Int) (mem : AMem) (Q : Option AV → AMem → Prop) (h : MtX yX12_ran cX12_ran 2 none d [vr 12 0, vi 1] mem (fun r m1 => r = none ∧ (Q (some (vi (w32 (a2 + a1)))) m1))) : Y cX12_plainGoes 3 RX12 (d + 1) sx 0 [some (vr 12 0), some (vi a1), some (vi a2)] [] mem Q := by
  refine a_aload_n dX12_plainGoes_0 rfl rfl ?_
  refine a_iconst (k := 1) dX12_plainGoes_1 (n_lit (by decide)) ?_
  refine iv_X12_424 dX12_plainGoes_2 (Nat.le_of_ble_eq_true rfl) (MtX_mono h (fun r m1 hq => ?_))
  obtain ⟨rfl, h2⟩ := hq
  refine ⟨rfl, ?_⟩
  refine a_iload_n dX12_plainGoes_5 rfl rfl ?_
  refine a_iload_n dX12_plainGoes_6 rfl rfl ?_
  refine a_iadd dX12_plainGoes_7 ?_
  exact a_iret dX12_plainGoes_8 h2
set_option maxRecDepth 10000 in
theorem sg_X12_emptyGoes_0 {d : Nat} {sx : Option (List Int)} (a1 : Int) (a2 : Int) (mem : AMem) (Q : Option AV → AMem → Prop) (h : MtX yX12_ran cX12_ran 2 none d [vr 12 0, vi 70] mem (fun r m1 => r = none ∧ (MtX yX12_plainGoes cX12_plainGoes 3 (some .int) d [vr 12 0, vi a1, vi a2] m1 (fun r m3 => ∃ x5 : Int, r = some (vi x5) ∧ (Q (some (vi (w32 (x5 * 2)))) m3))))) : Y cX12_emptyGoes 3 RX12 (d + 1) sx 0 [some (vr 12 0), some (vi a1), some (vi a2)] [] mem Q := by
  refine a_aload_n dX12_emptyGoes_0 rfl rfl ?_
  refine a_bipush (k := 70) dX12_emptyGoes_1 (by decide) (n_lit (by decide)) ?_
  refine iv_X12_424 dX12_emptyGoes_3 (Nat.le_of_ble_eq_true rfl) (MtX_mono h (fun r m1 hq => ?_))
  obtain ⟨rfl, h2⟩ := hq
  refine ⟨rfl, ?_⟩
  refine a_aload_n dX12_emptyGoes_6 rfl rfl ?_
  refine a_iload_n dX12_emptyGoes_7 rfl rfl ?_
  refine a_iload_n dX12_emptyGoes_8 rfl rfl ?_
  refine iv_X12_427 dX12_emptyGoes_9 (Nat.le_of_ble_eq_true rfl) (MtX_mono h2 (fun r m3 hq => ?_))
  obtain ⟨x5, rfl, h4⟩ := hq
  refine ⟨x5, rfl, ?_⟩
  refine a_iconst (k := 2) dX12_emptyGoes_12 (n_lit (by decide)) ?_
  refine a_imul dX12_emptyGoes_13 ?_
  exact a_iret dX12_emptyGoes_14 h4
set_option maxRecDepth 10000 in
theorem sg_X12_going_0 {d : Nat} {sx : Option (List Int)} (a1 : Int) (a2 : Int) (mem : AMem) (Q : Option AV → AMem → Prop) (h : (0 ≤ a1 ∧ a1 < 50) ∧ (MtX yX12_isUnder cX12_isUnder 2 (some .boolean) d [vi (mem 1356 0 a1), vi 1] mem (fun r m1 => ∃ x3 : Int, r = some (vi x3) ∧ ((x3 = (0 : Int) → ((0 ≤ a1 ∧ a1 < 50) ∧ (((m1 1356 0 a1) ≠ (7 : Int) → ((0 ≤ a1 ∧ a1 < 50) ∧ (((m1 1356 0 a1) ≠ (6 : Int) → (MtX yX12_plainGoes cX12_plainGoes 3 (some .int) d [vr 12 0, vi a1, vi a2] m1 (fun r m7 => ∃ x9 : Int, r = some (vi x9) ∧ (Q (some (vi x9)) m7)))) ∧ ((m1 1356 0 a1) = (6 : Int) → (MtX yX12_emptyGoes cX12_emptyGoes 3 (some .int) d [vr 12 0, vi a1, vi a2] m1 (fun r m10 => ∃ x12 : Int, r = some (vi x12) ∧ (Q (some (vi x12)) m10))))))) ∧ ((m1 1356 0 a1) = (7 : Int) → (MtX yX12_ran cX12_ran 2 none d [vr 12 0, vi 81] m1 (fun r m13 => r = none ∧ (MtX yX12_emptyGoes cX12_emptyGoes 3 (some .int) d [vr 12 0, vi a1, vi a2] m13 (fun r m15 => ∃ x17 : Int, r = some (vi x17) ∧ (Q (some (vi (w32 (x17 - 1)))) m15))))))))) ∧ (¬ x3 = (0 : Int) → (MtX yX12_ran cX12_ran 2 none d [vr 12 0, vi 20] m1 (fun r m18 => r = none ∧ (MtX yX12_plainGoes cX12_plainGoes 3 (some .int) d [vr 12 0, vi a1, vi a2] m18 (fun r m20 => ∃ x22 : Int, r = some (vi x22) ∧ (Q (some (vi (w32 (x22 + 3)))) m20)))))))))) : Y cX12_going 3 RX12 (d + 1) sx 0 [some (vr 12 0), some (vi a1), some (vi a2)] [] mem Q := by
  refine a_aload_n dX12_going_0 rfl rfl ?_
  refine gf_X12_102 dX12_going_1 ?_
  refine a_iload_n dX12_going_4 rfl rfl ?_
  refine a_iald rfl rfl (by decide) rfl dX12_going_5 ⟨h.1, ?_⟩
  refine a_iconst (k := 1) dX12_going_6 (n_lit (by decide)) ?_
  refine iv_X12_430 dX12_going_7 (Nat.le_of_ble_eq_true rfl) (MtX_mono h.2 (fun r m1 hq => ?_))
  obtain ⟨x3, rfl, h2⟩ := hq
  refine ⟨x3, rfl, ?_⟩
  refine a_if_eq (tgt := 28) dX12_going_10 (by decide) ⟨fun c4 => ?_, fun c4 => ?_⟩
  · refine a_aload_n dX12_going_28 rfl rfl ?_
    refine gf_X12_102 dX12_going_29 ?_
    refine a_iload_n dX12_going_32 rfl rfl ?_
    refine a_iald rfl rfl (by decide) rfl dX12_going_33 ⟨(h2.1 c4).1, ?_⟩
    refine a_bipush (k := 7) dX12_going_34 (by decide) (n_lit (by decide)) ?_
    refine a_icmp_ne (tgt := 54) dX12_going_36 (by decide) ⟨fun c5 => ?_, fun c5 => ?_⟩
    · refine a_aload_n dX12_going_54 rfl rfl ?_
      refine gf_X12_102 dX12_going_55 ?_
      refine a_iload_n dX12_going_58 rfl rfl ?_
      refine a_iald rfl rfl (by decide) rfl dX12_going_59 ⟨((h2.1 c4).2.1 c5).1, ?_⟩
      refine a_bipush (k := 6) dX12_going_60 (by decide) (n_lit (by decide)) ?_
      refine a_icmp_ne (tgt := 74) dX12_going_62 (by decide) ⟨fun c6 => ?_, fun c6 => ?_⟩
      · refine a_aload_n dX12_going_74 rfl rfl ?_
        refine a_iload_n dX12_going_75 rfl rfl ?_
        refine a_iload_n dX12_going_76 rfl rfl ?_
        refine iv_X12_427 dX12_going_77 (Nat.le_of_ble_eq_true rfl) (MtX_mono (((h2.1 c4).2.1 c5).2.1 c6) (fun r m7 hq => ?_))
        obtain ⟨x9, rfl, h8⟩ := hq
        refine ⟨x9, rfl, ?_⟩
        exact a_iret dX12_going_80 h8
      · refine a_aload_n dX12_going_65 rfl rfl ?_
        refine a_iload_n dX12_going_66 rfl rfl ?_
        refine a_iload_n dX12_going_67 rfl rfl ?_
        refine iv_X12_433 dX12_going_68 (Nat.le_of_ble_eq_true rfl) (MtX_mono (((h2.1 c4).2.1 c5).2.2 c6) (fun r m10 hq => ?_))
        obtain ⟨x12, rfl, h11⟩ := hq
        refine ⟨x12, rfl, ?_⟩
        refine a_goto (tgt := 80) dX12_going_71 (by decide) ?_
        exact a_iret dX12_going_80 h11
    · refine a_aload_n dX12_going_39 rfl rfl ?_
      refine a_bipush (k := 81) dX12_going_40 (by decide) (n_lit (by decide)) ?_
      refine iv_X12_424 dX12_going_42 (Nat.le_of_ble_eq_true rfl) (MtX_mono ((h2.1 c4).2.2 c5) (fun r m13 hq => ?_))
      obtain ⟨rfl, h14⟩ := hq
      refine ⟨rfl, ?_⟩
      refine a_aload_n dX12_going_45 rfl rfl ?_
      refine a_iload_n dX12_going_46 rfl rfl ?_
      refine a_iload_n dX12_going_47 rfl rfl ?_
      refine iv_X12_433 dX12_going_48 (Nat.le_of_ble_eq_true rfl) (MtX_mono h14 (fun r m15 hq => ?_))
      obtain ⟨x17, rfl, h16⟩ := hq
      refine ⟨x17, rfl, ?_⟩
      refine a_iconst (k := 1) dX12_going_51 (n_lit (by decide)) ?_
      refine a_isub dX12_going_52 ?_
      exact a_iret dX12_going_53 h16
  · refine a_aload_n dX12_going_13 rfl rfl ?_
    refine a_bipush (k := 20) dX12_going_14 (by decide) (n_lit (by decide)) ?_
    refine iv_X12_424 dX12_going_16 (Nat.le_of_ble_eq_true rfl) (MtX_mono (h2.2 c4) (fun r m18 hq => ?_))
    obtain ⟨rfl, h19⟩ := hq
    refine ⟨rfl, ?_⟩
    refine a_aload_n dX12_going_19 rfl rfl ?_
    refine a_iload_n dX12_going_20 rfl rfl ?_
    refine a_iload_n dX12_going_21 rfl rfl ?_
    refine iv_X12_427 dX12_going_22 (Nat.le_of_ble_eq_true rfl) (MtX_mono h19 (fun r m20 hq => ?_))
    obtain ⟨x22, rfl, h21⟩ := hq
    refine ⟨x22, rfl, ?_⟩
    refine a_iconst (k := 3) dX12_going_25 (n_lit (by decide)) ?_
    refine a_iadd dX12_going_26 ?_
    exact a_iret dX12_going_27 h21
set_option maxRecDepth 10000 in
theorem sg_X12_plainTouches_0 {d : Nat} {sx : Option (List Int)} (a1 : Int) (a2 : Int) (mem : AMem) (Q : Option AV → AMem → Prop) (h : MtX yX12_ran cX12_ran 2 none d [vr 12 0, vi 10] mem (fun r m1 => r = none ∧ (MtX yX12_going cX12_going 3 (some .int) d [vr 12 0, vi a1, vi a2] m1 (fun r m3 => ∃ x5 : Int, r = some (vi x5) ∧ (Q (some (vi (w32 (x5 * 2)))) m3))))) : Y cX12_plainTouches 3 RX12 (d + 1) sx 0 [some (vr 12 0), some (vi a1), some (vi a2)] [] mem Q := by
  refine a_aload_n dX12_plainTouches_0 rfl rfl ?_
  refine a_bipush (k := 10) dX12_plainTouches_1 (by decide) (n_lit (by decide)) ?_
  refine iv_X12_424 dX12_plainTouches_3 (Nat.le_of_ble_eq_true rfl) (MtX_mono h (fun r m1 hq => ?_))
  obtain ⟨rfl, h2⟩ := hq
  refine ⟨rfl, ?_⟩
  refine a_aload_n dX12_plainTouches_6 rfl rfl ?_
  refine a_iload_n dX12_plainTouches_7 rfl rfl ?_
  refine a_iload_n dX12_plainTouches_8 rfl rfl ?_
  refine iv_X12_436 dX12_plainTouches_9 (Nat.le_of_ble_eq_true rfl) (MtX_mono h2 (fun r m3 hq => ?_))
  obtain ⟨x5, rfl, h4⟩ := hq
  refine ⟨x5, rfl, ?_⟩
  refine a_iconst (k := 2) dX12_plainTouches_12 (n_lit (by decide)) ?_
  refine a_imul dX12_plainTouches_13 ?_
  exact a_iret dX12_plainTouches_14 h4
set_option maxRecDepth 10000 in
theorem sg_X12_touchTouches_0 {d : Nat} {sx : Option (List Int)} (a1 : Int) (a2 : Int) (mem : AMem) (Q : Option AV → AMem → Prop) (h : MtX yX12_ran cX12_ran 2 none d [vr 12 0, vi 30] mem (fun r m1 => r = none ∧ (MtX yX12_plainTouches cX12_plainTouches 3 (some .int) d [vr 12 0, vi a1, vi a2] m1 (fun r m3 => ∃ x5 : Int, r = some (vi x5) ∧ (Q (some (vi (w32 (-x5)))) m3))))) : Y cX12_touchTouches 3 RX12 (d + 1) sx 0 [some (vr 12 0), some (vi a1), some (vi a2)] [] mem Q := by
  refine a_aload_n dX12_touchTouches_0 rfl rfl ?_
  refine a_bipush (k := 30) dX12_touchTouches_1 (by decide) (n_lit (by decide)) ?_
  refine iv_X12_424 dX12_touchTouches_3 (Nat.le_of_ble_eq_true rfl) (MtX_mono h (fun r m1 hq => ?_))
  obtain ⟨rfl, h2⟩ := hq
  refine ⟨rfl, ?_⟩
  refine a_aload_n dX12_touchTouches_6 rfl rfl ?_
  refine a_iload_n dX12_touchTouches_7 rfl rfl ?_
  refine a_iload_n dX12_touchTouches_8 rfl rfl ?_
  refine iv_X12_439 dX12_touchTouches_9 (Nat.le_of_ble_eq_true rfl) (MtX_mono h2 (fun r m3 hq => ?_))
  obtain ⟨x5, rfl, h4⟩ := hq
  refine ⟨x5, rfl, ?_⟩
  refine a_ineg dX12_touchTouches_12 ?_
  exact a_iret dX12_touchTouches_13 h4
set_option maxRecDepth 10000 in
theorem sg_X12_touching_0 {d : Nat} {sx : Option (List Int)} (a1 : Int) (a2 : Int) (mem : AMem) (Q : Option AV → AMem → Prop) (h : (0 ≤ a1 ∧ a1 < 50) ∧ (MtX yX12_isUnder cX12_isUnder 2 (some .boolean) d [vi (mem 1356 0 a1), vi 3] mem (fun r m1 => ∃ x3 : Int, r = some (vi x3) ∧ ((x3 = (0 : Int) → ((0 ≤ a1 ∧ a1 < 50) ∧ (((m1 1356 0 a1) ≠ (7 : Int) → ((0 ≤ a1 ∧ a1 < 50) ∧ (((m1 1356 0 a1) ≠ (2 : Int) → (MtX yX12_plainTouches cX12_plainTouches 3 (some .int) d [vr 12 0, vi a1, vi a2] m1 (fun r m7 => ∃ x9 : Int, r = some (vi x9) ∧ (Q (some (vi x9)) m7)))) ∧ ((m1 1356 0 a1) = (2 : Int) → (MtX yX12_touchTouches cX12_touchTouches 3 (some .int) d [vr 12 0, vi a1, vi a2] m1 (fun r m10 => ∃ x12 : Int, r = some (vi x12) ∧ (Q (some (vi x12)) m10))))))) ∧ ((m1 1356 0 a1) = (7 : Int) → (MtX yX12_ran cX12_ran 2 none d [vr 12 0, vi 80] m1 (fun r m13 => r = none ∧ (MtX yX12_plainTouches cX12_plainTouches 3 (some .int) d [vr 12 0, vi a1, vi a2] m13 (fun r m15 => ∃ x17 : Int, r = some (vi x17) ∧ (MtX yX12_holdsBy cX12_holdsBy 4 (some .int) d [vr 12 0, vi a1, vi 2] m15 (fun r m18 => ∃ x20 : Int, r = some (vi x20) ∧ (Q (some (vi (w32 (x17 + x20)))) m18))))))))))) ∧ (¬ x3 = (0 : Int) → (MtX yX12_ran cX12_ran 2 none d [vr 12 0, vi 41] m1 (fun r m21 => r = none ∧ (MtX yX12_touchTouches cX12_touchTouches 3 (some .int) d [vr 12 0, vi a1, vi (w32 (a2 + 1))] m21 (fun r m23 => ∃ x25 : Int, r = some (vi x25) ∧ (Q (some (vi x25)) m23)))))))))) : Y cX12_touching 4 RX12 (d + 1) sx 0 [some (vr 12 0), some (vi a1), some (vi a2), none] [] mem Q := by
  refine a_aload_n dX12_touching_0 rfl rfl ?_
  refine gf_X12_102 dX12_touching_1 ?_
  refine a_iload_n dX12_touching_4 rfl rfl ?_
  refine a_iald rfl rfl (by decide) rfl dX12_touching_5 ⟨h.1, ?_⟩
  refine a_iconst (k := 3) dX12_touching_6 (n_lit (by decide)) ?_
  refine iv_X12_430 dX12_touching_7 (Nat.le_of_ble_eq_true rfl) (MtX_mono h.2 (fun r m1 hq => ?_))
  obtain ⟨x3, rfl, h2⟩ := hq
  refine ⟨x3, rfl, ?_⟩
  refine a_if_eq (tgt := 28) dX12_touching_10 (by decide) ⟨fun c4 => ?_, fun c4 => ?_⟩
  · refine a_aload_n dX12_touching_28 rfl rfl ?_
    refine gf_X12_102 dX12_touching_29 ?_
    refine a_iload_n dX12_touching_32 rfl rfl ?_
    refine a_iald rfl rfl (by decide) rfl dX12_touching_33 ⟨(h2.1 c4).1, ?_⟩
    refine a_bipush (k := 7) dX12_touching_34 (by decide) (n_lit (by decide)) ?_
    refine a_icmp_ne (tgt := 61) dX12_touching_36 (by decide) ⟨fun c5 => ?_, fun c5 => ?_⟩
    · refine a_aload_n dX12_touching_61 rfl rfl ?_
      refine gf_X12_102 dX12_touching_62 ?_
      refine a_iload_n dX12_touching_65 rfl rfl ?_
      refine a_iald rfl rfl (by decide) rfl dX12_touching_66 ⟨((h2.1 c4).2.1 c5).1, ?_⟩
      refine a_iconst (k := 2) dX12_touching_67 (n_lit (by decide)) ?_
      refine a_icmp_ne (tgt := 80) dX12_touching_68 (by decide) ⟨fun c6 => ?_, fun c6 => ?_⟩
      · refine a_aload_n dX12_touching_80 rfl rfl ?_
        refine a_iload_n dX12_touching_81 rfl rfl ?_
        refine a_iload_n dX12_touching_82 rfl rfl ?_
        refine iv_X12_439 dX12_touching_83 (Nat.le_of_ble_eq_true rfl) (MtX_mono (((h2.1 c4).2.1 c5).2.1 c6) (fun r m7 hq => ?_))
        obtain ⟨x9, rfl, h8⟩ := hq
        refine ⟨x9, rfl, ?_⟩
        exact a_iret dX12_touching_86 h8
      · refine a_aload_n dX12_touching_71 rfl rfl ?_
        refine a_iload_n dX12_touching_72 rfl rfl ?_
        refine a_iload_n dX12_touching_73 rfl rfl ?_
        refine iv_X12_442 dX12_touching_74 (Nat.le_of_ble_eq_true rfl) (MtX_mono (((h2.1 c4).2.1 c5).2.2 c6) (fun r m10 hq => ?_))
        obtain ⟨x12, rfl, h11⟩ := hq
        refine ⟨x12, rfl, ?_⟩
        refine a_goto (tgt := 86) dX12_touching_77 (by decide) ?_
        exact a_iret dX12_touching_86 h11
    · refine a_aload_n dX12_touching_39 rfl rfl ?_
      refine a_bipush (k := 80) dX12_touching_40 (by decide) (n_lit (by decide)) ?_
      refine iv_X12_424 dX12_touching_42 (Nat.le_of_ble_eq_true rfl) (MtX_mono ((h2.1 c4).2.2 c5) (fun r m13 hq => ?_))
      obtain ⟨rfl, h14⟩ := hq
      refine ⟨rfl, ?_⟩
      refine a_aload_n dX12_touching_45 rfl rfl ?_
      refine a_iload_n dX12_touching_46 rfl rfl ?_
      refine a_iload_n dX12_touching_47 rfl rfl ?_
      refine iv_X12_439 dX12_touching_48 (Nat.le_of_ble_eq_true rfl) (MtX_mono h14 (fun r m15 hq => ?_))
      obtain ⟨x17, rfl, h16⟩ := hq
      refine ⟨x17, rfl, ?_⟩
      refine a_istore_n dX12_touching_51 rfl (by decide) rfl ?_
      refine a_iload_n dX12_touching_52 rfl rfl ?_
      refine a_aload_n dX12_touching_53 rfl rfl ?_
      refine a_iload_n dX12_touching_54 rfl rfl ?_
      refine a_iconst (k := 2) dX12_touching_55 (n_lit (by decide)) ?_
      refine iv_X12_445 dX12_touching_56 (Nat.le_of_ble_eq_true rfl) (MtX_mono h16 (fun r m18 hq => ?_))
      obtain ⟨x20, rfl, h19⟩ := hq
      refine ⟨x20, rfl, ?_⟩
      refine a_iadd dX12_touching_59 ?_
      exact a_iret dX12_touching_60 h19
  · refine a_aload_n dX12_touching_13 rfl rfl ?_
    refine a_bipush (k := 41) dX12_touching_14 (by decide) (n_lit (by decide)) ?_
    refine iv_X12_424 dX12_touching_16 (Nat.le_of_ble_eq_true rfl) (MtX_mono (h2.2 c4) (fun r m21 hq => ?_))
    obtain ⟨rfl, h22⟩ := hq
    refine ⟨rfl, ?_⟩
    refine a_aload_n dX12_touching_19 rfl rfl ?_
    refine a_iload_n dX12_touching_20 rfl rfl ?_
    refine a_iload_n dX12_touching_21 rfl rfl ?_
    refine a_iconst (k := 1) dX12_touching_22 (n_lit (by decide)) ?_
    refine a_iadd dX12_touching_23 ?_
    refine iv_X12_442 dX12_touching_24 (Nat.le_of_ble_eq_true rfl) (MtX_mono h22 (fun r m23 hq => ?_))
    obtain ⟨x25, rfl, h24⟩ := hq
    refine ⟨x25, rfl, ?_⟩
    exact a_iret dX12_touching_27 h24
set_option maxRecDepth 10000 in
theorem sg_X12_plainHolds_0 {d : Nat} {sx : Option (List Int)} (a1 : Int) (a2 : Int) (mem : AMem) (Q : Option AV → AMem → Prop) (h : MtX yX12_ran cX12_ran 2 none d [vr 12 0, vi 11] mem (fun r m1 => r = none ∧ (Q (some (vi (xo32 a2 a1))) m1))) : Y cX12_plainHolds 3 RX12 (d + 1) sx 0 [some (vr 12 0), some (vi a1), some (vi a2)] [] mem Q := by
  refine a_aload_n dX12_plainHolds_0 rfl rfl ?_
  refine a_bipush (k := 11) dX12_plainHolds_1 (by decide) (n_lit (by decide)) ?_
  refine iv_X12_424 dX12_plainHolds_3 (Nat.le_of_ble_eq_true rfl) (MtX_mono h (fun r m1 hq => ?_))
  obtain ⟨rfl, h2⟩ := hq
  refine ⟨rfl, ?_⟩
  refine a_iload_n dX12_plainHolds_6 rfl rfl ?_
  refine a_iload_n dX12_plainHolds_7 rfl rfl ?_
  refine a_ixor dX12_plainHolds_8 ?_
  exact a_iret dX12_plainHolds_9 h2
set_option maxRecDepth 10000 in
theorem sg_X12_holdHolds_0 {d : Nat} {sx : Option (List Int)} (a1 : Int) (a2 : Int) (mem : AMem) (Q : Option AV → AMem → Prop) (h : MtX yX12_ran cX12_ran 2 none d [vr 12 0, vi 40] mem (fun r m1 => r = none ∧ (MtX yX12_plainHolds cX12_plainHolds 3 (some .int) d [vr 12 0, vi a1, vi a2] m1 (fun r m3 => ∃ x5 : Int, r = some (vi x5) ∧ (Q (some (vi (w32 (x5 * 3)))) m3))))) : Y cX12_holdHolds 3 RX12 (d + 1) sx 0 [some (vr 12 0), some (vi a1), some (vi a2)] [] mem Q := by
  refine a_aload_n dX12_holdHolds_0 rfl rfl ?_
  refine a_bipush (k := 40) dX12_holdHolds_1 (by decide) (n_lit (by decide)) ?_
  refine iv_X12_424 dX12_holdHolds_3 (Nat.le_of_ble_eq_true rfl) (MtX_mono h (fun r m1 hq => ?_))
  obtain ⟨rfl, h2⟩ := hq
  refine ⟨rfl, ?_⟩
  refine a_aload_n dX12_holdHolds_6 rfl rfl ?_
  refine a_iload_n dX12_holdHolds_7 rfl rfl ?_
  refine a_iload_n dX12_holdHolds_8 rfl rfl ?_
  refine iv_X12_448 dX12_holdHolds_9 (Nat.le_of_ble_eq_true rfl) (MtX_mono h2 (fun r m3 hq => ?_))
  obtain ⟨x5, rfl, h4⟩ := hq
  refine ⟨x5, rfl, ?_⟩
  refine a_iconst (k := 3) dX12_holdHolds_12 (n_lit (by decide)) ?_
  refine a_imul dX12_holdHolds_13 ?_
  exact a_iret dX12_holdHolds_14 h4
set_option maxRecDepth 10000 in
theorem sg_X12_holdsBy_0 {d : Nat} {sx : Option (List Int)} (a1 : Int) (a2 : Int) (mem : AMem) (Q : Option AV → AMem → Prop) (h : (0 ≤ a1 ∧ a1 < 50) ∧ (((mem 1356 0 a1) ≠ (5 : Int) → ((0 ≤ a1 ∧ a1 < 50) ∧ (((mem 1356 0 a1) ≠ (3 : Int) → (MtX yX12_plainHolds cX12_plainHolds 3 (some .int) d [vr 12 0, vi a1, vi a2] mem (fun r m3 => ∃ x5 : Int, r = some (vi x5) ∧ (Q (some (vi x5)) m3)))) ∧ ((mem 1356 0 a1) = (3 : Int) → (MtX yX12_holdHolds cX12_holdHolds 3 (some .int) d [vr 12 0, vi a1, vi a2] mem (fun r m6 => ∃ x8 : Int, r = some (vi x8) ∧ (Q (some (vi x8)) m6))))))) ∧ ((mem 1356 0 a1) = (5 : Int) → (MtX yX12_ran cX12_ran 2 none d [vr 12 0, vi 60] mem (fun r m9 => r = none ∧ (MtX yX12_holdHolds cX12_holdHolds 3 (some .int) d [vr 12 0, vi a1, vi a2] m9 (fun r m11 => ∃ x13 : Int, r = some (vi x13) ∧ (MtX yX12_going cX12_going 3 (some .int) d [vr 12 0, vi a1, vi 2] m11 (fun r m14 => ∃ x16 : Int, r = some (vi x16) ∧ (Q (some (vi (w32 (x13 - x16)))) m14)))))))))) : Y cX12_holdsBy 4 RX12 (d + 1) sx 0 [some (vr 12 0), some (vi a1), some (vi a2), none] [] mem Q := by
  refine a_aload_n dX12_holdsBy_0 rfl rfl ?_
  refine gf_X12_102 dX12_holdsBy_1 ?_
  refine a_iload_n dX12_holdsBy_4 rfl rfl ?_
  refine a_iald rfl rfl (by decide) rfl dX12_holdsBy_5 ⟨h.1, ?_⟩
  refine a_iconst (k := 5) dX12_holdsBy_6 (n_lit (by decide)) ?_
  refine a_icmp_ne (tgt := 32) dX12_holdsBy_7 (by decide) ⟨fun c1 => ?_, fun c1 => ?_⟩
  · refine a_aload_n dX12_holdsBy_32 rfl rfl ?_
    refine gf_X12_102 dX12_holdsBy_33 ?_
    refine a_iload_n dX12_holdsBy_36 rfl rfl ?_
    refine a_iald rfl rfl (by decide) rfl dX12_holdsBy_37 ⟨(h.2.1 c1).1, ?_⟩
    refine a_iconst (k := 3) dX12_holdsBy_38 (n_lit (by decide)) ?_
    refine a_icmp_ne (tgt := 51) dX12_holdsBy_39 (by decide) ⟨fun c2 => ?_, fun c2 => ?_⟩
    · refine a_aload_n dX12_holdsBy_51 rfl rfl ?_
      refine a_iload_n dX12_holdsBy_52 rfl rfl ?_
      refine a_iload_n dX12_holdsBy_53 rfl rfl ?_
      refine iv_X12_448 dX12_holdsBy_54 (Nat.le_of_ble_eq_true rfl) (MtX_mono ((h.2.1 c1).2.1 c2) (fun r m3 hq => ?_))
      obtain ⟨x5, rfl, h4⟩ := hq
      refine ⟨x5, rfl, ?_⟩
      exact a_iret dX12_holdsBy_57 h4
    · refine a_aload_n dX12_holdsBy_42 rfl rfl ?_
      refine a_iload_n dX12_holdsBy_43 rfl rfl ?_
      refine a_iload_n dX12_holdsBy_44 rfl rfl ?_
      refine iv_X12_451 dX12_holdsBy_45 (Nat.le_of_ble_eq_true rfl) (MtX_mono ((h.2.1 c1).2.2 c2) (fun r m6 hq => ?_))
      obtain ⟨x8, rfl, h7⟩ := hq
      refine ⟨x8, rfl, ?_⟩
      refine a_goto (tgt := 57) dX12_holdsBy_48 (by decide) ?_
      exact a_iret dX12_holdsBy_57 h7
  · refine a_aload_n dX12_holdsBy_10 rfl rfl ?_
    refine a_bipush (k := 60) dX12_holdsBy_11 (by decide) (n_lit (by decide)) ?_
    refine iv_X12_424 dX12_holdsBy_13 (Nat.le_of_ble_eq_true rfl) (MtX_mono (h.2.2 c1) (fun r m9 hq => ?_))
    obtain ⟨rfl, h10⟩ := hq
    refine ⟨rfl, ?_⟩
    refine a_aload_n dX12_holdsBy_16 rfl rfl ?_
    refine a_iload_n dX12_holdsBy_17 rfl rfl ?_
    refine a_iload_n dX12_holdsBy_18 rfl rfl ?_
    refine iv_X12_451 dX12_holdsBy_19 (Nat.le_of_ble_eq_true rfl) (MtX_mono h10 (fun r m11 hq => ?_))
    obtain ⟨x13, rfl, h12⟩ := hq
    refine ⟨x13, rfl, ?_⟩
    refine a_istore_n dX12_holdsBy_22 rfl (by decide) rfl ?_
    refine a_iload_n dX12_holdsBy_23 rfl rfl ?_
    refine a_aload_n dX12_holdsBy_24 rfl rfl ?_
    refine a_iload_n dX12_holdsBy_25 rfl rfl ?_
    refine a_iconst (k := 2) dX12_holdsBy_26 (n_lit (by decide)) ?_
    refine iv_X12_436 dX12_holdsBy_27 (Nat.le_of_ble_eq_true rfl) (MtX_mono h12 (fun r m14 hq => ?_))
    obtain ⟨x16, rfl, h15⟩ := hq
    refine ⟨x16, rfl, ?_⟩
    refine a_isub dX12_holdsBy_30 ?_
    exact a_iret dX12_holdsBy_31 h15
set_option maxRecDepth 10000 in
theorem sg_X12_plainTells_0 {d : Nat} {sx : Option (List Int)} (a1 : Int) (a2 : Int) (mem : AMem) (Q : Option AV → AMem → Prop) (h : MtX yX12_ran cX12_ran 2 none d [vr 12 0, vi 2] mem (fun r m1 => r = none ∧ (MtX yX12_touching cX12_touching 4 (some .int) d [vr 12 0, vi a1, vi a2] m1 (fun r m3 => ∃ x5 : Int, r = some (vi x5) ∧ (MtX yX12_holdsBy cX12_holdsBy 4 (some .int) d [vr 12 0, vi a1, vi 1] m3 (fun r m6 => ∃ x8 : Int, r = some (vi x8) ∧ (Q (some (vi (w32 (x5 - x8)))) m6))))))) : Y cX12_plainTells 4 RX12 (d + 1) sx 0 [some (vr 12 0), some (vi a1), some (vi a2), none] [] mem Q := by
  refine a_aload_n dX12_plainTells_0 rfl rfl ?_
  refine a_iconst (k := 2) dX12_plainTells_1 (n_lit (by decide)) ?_
  refine iv_X12_424 dX12_plainTells_2 (Nat.le_of_ble_eq_true rfl) (MtX_mono h (fun r m1 hq => ?_))
  obtain ⟨rfl, h2⟩ := hq
  refine ⟨rfl, ?_⟩
  refine a_aload_n dX12_plainTells_5 rfl rfl ?_
  refine a_iload_n dX12_plainTells_6 rfl rfl ?_
  refine a_iload_n dX12_plainTells_7 rfl rfl ?_
  refine iv_X12_454 dX12_plainTells_8 (Nat.le_of_ble_eq_true rfl) (MtX_mono h2 (fun r m3 hq => ?_))
  obtain ⟨x5, rfl, h4⟩ := hq
  refine ⟨x5, rfl, ?_⟩
  refine a_istore_n dX12_plainTells_11 rfl (by decide) rfl ?_
  refine a_iload_n dX12_plainTells_12 rfl rfl ?_
  refine a_aload_n dX12_plainTells_13 rfl rfl ?_
  refine a_iload_n dX12_plainTells_14 rfl rfl ?_
  refine a_iconst (k := 1) dX12_plainTells_15 (n_lit (by decide)) ?_
  refine iv_X12_445 dX12_plainTells_16 (Nat.le_of_ble_eq_true rfl) (MtX_mono h4 (fun r m6 hq => ?_))
  obtain ⟨x8, rfl, h7⟩ := hq
  refine ⟨x8, rfl, ?_⟩
  refine a_isub dX12_plainTells_19 ?_
  exact a_iret dX12_plainTells_20 h7
set_option maxRecDepth 10000 in
theorem sg_X12_telling_0 {d : Nat} {sx : Option (List Int)} (a1 : Int) (a2 : Int) (mem : AMem) (Q : Option AV → AMem → Prop) (h : (0 ≤ a1 ∧ a1 < 50) ∧ (((mem 1356 0 a1) ≠ (4 : Int) → ((0 ≤ a1 ∧ a1 < 50) ∧ (((mem 1356 0 a1) ≠ (5 : Int) → (MtX yX12_plainTells cX12_plainTells 4 (some .int) d [vr 12 0, vi a1, vi a2] mem (fun r m3 => ∃ x5 : Int, r = some (vi x5) ∧ (Q (some (vi x5)) m3)))) ∧ ((mem 1356 0 a1) = (5 : Int) → (MtX yX12_ran cX12_ran 2 none d [vr 12 0, vi 61] mem (fun r m6 => r = none ∧ (MtX yX12_plainTells cX12_plainTells 4 (some .int) d [vr 12 0, vi a1, vi a2] m6 (fun r m8 => ∃ x10 : Int, r = some (vi x10) ∧ (Q (some (vi (w32 (x10 + 1)))) m8))))))))) ∧ ((mem 1356 0 a1) = (4 : Int) → (MtX yX12_ran cX12_ran 2 none d [vr 12 0, vi 50] mem (fun r m11 => r = none ∧ (MtX yX12_plainTells cX12_plainTells 4 (some .int) d [vr 12 0, vi a1, vi a2] m11 (fun r m13 => ∃ x15 : Int, r = some (vi x15) ∧ (Q (some (vi (xo32 x15 5))) m13)))))))) : Y cX12_telling 3 RX12 (d + 1) sx 0 [some (vr 12 0), some (vi a1), some (vi a2)] [] mem Q := by
  refine a_aload_n dX12_telling_0 rfl rfl ?_
  refine gf_X12_102 dX12_telling_1 ?_
  refine a_iload_n dX12_telling_4 rfl rfl ?_
  refine a_iald rfl rfl (by decide) rfl dX12_telling_5 ⟨h.1, ?_⟩
  refine a_iconst (k := 4) dX12_telling_6 (n_lit (by decide)) ?_
  refine a_icmp_ne (tgt := 25) dX12_telling_7 (by decide) ⟨fun c1 => ?_, fun c1 => ?_⟩
  · refine a_aload_n dX12_telling_25 rfl rfl ?_
    refine gf_X12_102 dX12_telling_26 ?_
    refine a_iload_n dX12_telling_29 rfl rfl ?_
    refine a_iald rfl rfl (by decide) rfl dX12_telling_30 ⟨(h.2.1 c1).1, ?_⟩
    refine a_iconst (k := 5) dX12_telling_31 (n_lit (by decide)) ?_
    refine a_icmp_ne (tgt := 50) dX12_telling_32 (by decide) ⟨fun c2 => ?_, fun c2 => ?_⟩
    · refine a_aload_n dX12_telling_50 rfl rfl ?_
      refine a_iload_n dX12_telling_51 rfl rfl ?_
      refine a_iload_n dX12_telling_52 rfl rfl ?_
      refine iv_X12_457 dX12_telling_53 (Nat.le_of_ble_eq_true rfl) (MtX_mono ((h.2.1 c1).2.1 c2) (fun r m3 hq => ?_))
      obtain ⟨x5, rfl, h4⟩ := hq
      refine ⟨x5, rfl, ?_⟩
      exact a_iret dX12_telling_56 h4
    · refine a_aload_n dX12_telling_35 rfl rfl ?_
      refine a_bipush (k := 61) dX12_telling_36 (by decide) (n_lit (by decide)) ?_
      refine iv_X12_424 dX12_telling_38 (Nat.le_of_ble_eq_true rfl) (MtX_mono ((h.2.1 c1).2.2 c2) (fun r m6 hq => ?_))
      obtain ⟨rfl, h7⟩ := hq
      refine ⟨rfl, ?_⟩
      refine a_aload_n dX12_telling_41 rfl rfl ?_
      refine a_iload_n dX12_telling_42 rfl rfl ?_
      refine a_iload_n dX12_telling_43 rfl rfl ?_
      refine iv_X12_457 dX12_telling_44 (Nat.le_of_ble_eq_true rfl) (MtX_mono h7 (fun r m8 hq => ?_))
      obtain ⟨x10, rfl, h9⟩ := hq
      refine ⟨x10, rfl, ?_⟩
      refine a_iconst (k := 1) dX12_telling_47 (n_lit (by decide)) ?_
      refine a_iadd dX12_telling_48 ?_
      exact a_iret dX12_telling_49 h9
  · refine a_aload_n dX12_telling_10 rfl rfl ?_
    refine a_bipush (k := 50) dX12_telling_11 (by decide) (n_lit (by decide)) ?_
    refine iv_X12_424 dX12_telling_13 (Nat.le_of_ble_eq_true rfl) (MtX_mono (h.2.2 c1) (fun r m11 hq => ?_))
    obtain ⟨rfl, h12⟩ := hq
    refine ⟨rfl, ?_⟩
    refine a_aload_n dX12_telling_16 rfl rfl ?_
    refine a_iload_n dX12_telling_17 rfl rfl ?_
    refine a_iload_n dX12_telling_18 rfl rfl ?_
    refine iv_X12_457 dX12_telling_19 (Nat.le_of_ble_eq_true rfl) (MtX_mono h12 (fun r m13 hq => ?_))
    obtain ⟨x15, rfl, h14⟩ := hq
    refine ⟨x15, rfl, ?_⟩
    refine a_iconst (k := 5) dX12_telling_22 (n_lit (by decide)) ?_
    refine a_ixor dX12_telling_23 ?_
    exact a_iret dX12_telling_24 h14
set_option maxRecDepth 10000 in
theorem sg_X12_act_0 {d : Nat} {sx : Option (List Int)} (a1 : Int) (a2 : Int) (a3 : Int) (mem : AMem) (Q : Option AV → AMem → Prop) (h : MtX yX12_isBody cX12_isBody 2 (some .boolean) d [vr 12 0, vi a1] (upM mem 12 0 57 0) (fun r m1 => ∃ x3 : Int, r = some (vi x3) ∧ ((x3 = (0 : Int) → (Q (some (vi 0)) m1)) ∧ (¬ x3 = (0 : Int) → (MtX yX12_in cX12_in 3 (some .boolean) d [vi a2, vi 0, vi 3] m1 (fun r m5 => ∃ x7 : Int, r = some (vi x7) ∧ ((x7 ≠ (0 : Int) → ((a2 ≠ (0 : Int) → ((a2 ≠ (1 : Int) → ((a2 ≠ (2 : Int) → (MtX yX12_telling cX12_telling 3 (some .int) d [vr 12 0, vi a1, vi a3] m5 (fun r m12 => ∃ x14 : Int, r = some (vi x14) ∧ (Q (some (vi x14)) m12)))) ∧ (a2 = (2 : Int) → (MtX yX12_holdsBy cX12_holdsBy 4 (some .int) d [vr 12 0, vi a1, vi a3] m5 (fun r m15 => ∃ x17 : Int, r = some (vi x17) ∧ (Q (some (vi x17)) m15)))))) ∧ (a2 = (1 : Int) → (MtX yX12_touching cX12_touching 4 (some .int) d [vr 12 0, vi a1, vi a3] m5 (fun r m18 => ∃ x20 : Int, r = some (vi x20) ∧ (Q (some (vi x20)) m18)))))) ∧ (a2 = (0 : Int) → (MtX yX12_going cX12_going 3 (some .int) d [vr 12 0, vi a1, vi a3] m5 (fun r m21 => ∃ x23 : Int, r = some (vi x23) ∧ (Q (some (vi x23)) m21)))))) ∧ (x7 = (0 : Int) → (Q (some (vi 0)) m5))))))))) : Y cX12_act 4 RX12 (d + 1) sx 0 [some (vr 12 0), some (vi a1), some (vi a2), some (vi a3)] [] mem Q := by
  refine a_aload_n dX12_act_0 rfl rfl ?_
  refine a_iconst (k := 0) dX12_act_1 (n_lit (by decide)) ?_
  refine pf_X12_421 dX12_act_2 ?_
  refine a_aload_n dX12_act_5 rfl rfl ?_
  refine a_iload_n dX12_act_6 rfl rfl ?_
  refine iv_X12_460 dX12_act_7 (Nat.le_of_ble_eq_true rfl) (MtX_mono h (fun r m1 hq => ?_))
  obtain ⟨x3, rfl, h2⟩ := hq
  refine ⟨x3, rfl, ?_⟩
  refine a_if_eq (tgt := 22) dX12_act_10 (by decide) ⟨fun c4 => ?_, fun c4 => ?_⟩
  · refine a_iconst (k := 0) dX12_act_22 (n_lit (by decide)) ?_
    exact a_iret dX12_act_23 (h2.1 c4)
  · refine a_iload_n dX12_act_13 rfl rfl ?_
    refine a_iconst (k := 0) dX12_act_14 (n_lit (by decide)) ?_
    refine a_iconst (k := 3) dX12_act_15 (n_lit (by decide)) ?_
    refine iv_X12_128 dX12_act_16 (Nat.le_of_ble_eq_true rfl) (MtX_mono (h2.2 c4) (fun r m5 hq => ?_))
    obtain ⟨x7, rfl, h6⟩ := hq
    refine ⟨x7, rfl, ?_⟩
    refine a_if_ne (tgt := 24) dX12_act_19 (by decide) ⟨fun c8 => ?_, fun c8 => ?_⟩
    · refine a_iload_n dX12_act_24 rfl rfl ?_
      refine a_if_ne (tgt := 37) dX12_act_25 (by decide) ⟨fun c9 => ?_, fun c9 => ?_⟩
      · refine a_iload_n dX12_act_37 rfl rfl ?_
        refine a_iconst (k := 1) dX12_act_38 (n_lit (by decide)) ?_
        refine a_icmp_ne (tgt := 51) dX12_act_39 (by decide) ⟨fun c10 => ?_, fun c10 => ?_⟩
        · refine a_iload_n dX12_act_51 rfl rfl ?_
          refine a_iconst (k := 2) dX12_act_52 (n_lit (by decide)) ?_
          refine a_icmp_ne (tgt := 65) dX12_act_53 (by decide) ⟨fun c11 => ?_, fun c11 => ?_⟩
          · refine a_aload_n dX12_act_65 rfl rfl ?_
            refine a_iload_n dX12_act_66 rfl rfl ?_
            refine a_iload_n dX12_act_67 rfl rfl ?_
            refine iv_X12_463 dX12_act_68 (Nat.le_of_ble_eq_true rfl) (MtX_mono ((((h6.1 c8).1 c9).1 c10).1 c11) (fun r m12 hq => ?_))
            obtain ⟨x14, rfl, h13⟩ := hq
            refine ⟨x14, rfl, ?_⟩
            exact a_iret dX12_act_71 h13
          · refine a_aload_n dX12_act_56 rfl rfl ?_
            refine a_iload_n dX12_act_57 rfl rfl ?_
            refine a_iload_n dX12_act_58 rfl rfl ?_
            refine iv_X12_445 dX12_act_59 (Nat.le_of_ble_eq_true rfl) (MtX_mono ((((h6.1 c8).1 c9).1 c10).2 c11) (fun r m15 hq => ?_))
            obtain ⟨x17, rfl, h16⟩ := hq
            refine ⟨x17, rfl, ?_⟩
            refine a_goto (tgt := 71) dX12_act_62 (by decide) ?_
            exact a_iret dX12_act_71 h16
        · refine a_aload_n dX12_act_42 rfl rfl ?_
          refine a_iload_n dX12_act_43 rfl rfl ?_
          refine a_iload_n dX12_act_44 rfl rfl ?_
          refine iv_X12_454 dX12_act_45 (Nat.le_of_ble_eq_true rfl) (MtX_mono (((h6.1 c8).1 c9).2 c10) (fun r m18 hq => ?_))
          obtain ⟨x20, rfl, h19⟩ := hq
          refine ⟨x20, rfl, ?_⟩
          refine a_goto (tgt := 71) dX12_act_48 (by decide) ?_
          exact a_iret dX12_act_71 h19
      · refine a_aload_n dX12_act_28 rfl rfl ?_
        refine a_iload_n dX12_act_29 rfl rfl ?_
        refine a_iload_n dX12_act_30 rfl rfl ?_
        refine iv_X12_436 dX12_act_31 (Nat.le_of_ble_eq_true rfl) (MtX_mono ((h6.1 c8).2 c9) (fun r m21 hq => ?_))
        obtain ⟨x23, rfl, h22⟩ := hq
        refine ⟨x23, rfl, ?_⟩
        refine a_goto (tgt := 71) dX12_act_34 (by decide) ?_
        exact a_iret dX12_act_71 h22
    · refine a_iconst (k := 0) dX12_act_22 (n_lit (by decide)) ?_
      exact a_iret dX12_act_23 (h6.2 c8)
set_option maxRecDepth 10000 in
theorem sg_X12_count_0 {d : Nat} {sx : Option (List Int)} (a1 : Int) (mem : AMem) (Q : Option AV → AMem → Prop) (h : (a1 = 0 → (Q (some (vi (mem 12 0 1))) mem)) ∧ (a1 = 1 → (Y cX12_count 4 RX12 (d + 1) sx 49 [some (vr 12 0), some (vi a1), some (vi 0), some (vi 0)] [] mem Q)) ∧ (a1 = 2 → (Q (some (vi (mem 12 0 14))) mem)) ∧ (a1 = 3 → (Q (some (vi (mem 12 0 7))) mem)) ∧ (a1 = 4 → (Q (some (vi (mem 12 0 55))) mem)) ∧ (a1 = 5 → (Q (some (vi (mem 12 0 57))) mem)) ∧ (¬ (0 ≤ a1 ∧ a1 ≤ 5) → (Q (some (vi (-1))) mem))) : Y cX12_count 4 RX12 (d + 1) sx 0 [some (vr 12 0), some (vi a1), none, none] [] mem Q := by
  refine a_iload_n dX12_count_0 rfl rfl ?_
  refine a_table dX12_count_1 (fun z => if z = 0 then 40 else if z = 1 then 45 else if z = 2 then 74 else if z = 3 then 79 else if z = 4 then 84 else if z = 5 then 89 else 0) 94 (by decide) (by decide) (by decide) ⟨fun e1a e1b => ?_, fun e2 => ?_⟩
  · rcases (by omega : a1 = 0 ∨ a1 = 1 ∨ a1 = 2 ∨ a1 = 3 ∨ a1 = 4 ∨ a1 = 5) with e1 | e1 | e1 | e1 | e1 | e1
    · refine Y_at (pc := 40) (by rw [e1]; rfl) ?_
      refine a_aload_n dX12_count_40 rfl rfl ?_
      refine gf_X12_125 (x := mem 12 0 1) rfl dX12_count_41 ?_
      exact a_iret dX12_count_44 (h.1 e1)
    · refine Y_at (pc := 45) (by rw [e1]; rfl) ?_
      refine a_iconst (k := 0) dX12_count_45 (n_lit (by decide)) ?_
      refine a_istore_n dX12_count_46 rfl (by decide) rfl ?_
      refine a_iconst (k := 0) dX12_count_47 (n_lit (by decide)) ?_
      refine a_istore_n dX12_count_48 rfl (by decide) rfl ?_
      exact (h.2.1 e1)
    · refine Y_at (pc := 74) (by rw [e1]; rfl) ?_
      refine a_aload_n dX12_count_74 rfl rfl ?_
      refine gf_X12_175 (x := mem 12 0 14) rfl dX12_count_75 ?_
      exact a_iret dX12_count_78 (h.2.2.1 e1)
    · refine Y_at (pc := 79) (by rw [e1]; rfl) ?_
      refine a_aload_n dX12_count_79 rfl rfl ?_
      refine gf_X12_155 (x := mem 12 0 7) rfl dX12_count_80 ?_
      exact a_iret dX12_count_83 (h.2.2.2.1 e1)
    · refine Y_at (pc := 84) (by rw [e1]; rfl) ?_
      refine a_aload_n dX12_count_84 rfl rfl ?_
      refine gf_X12_418 (x := mem 12 0 55) rfl dX12_count_85 ?_
      exact a_iret dX12_count_88 (h.2.2.2.2.1 e1)
    · refine Y_at (pc := 89) (by rw [e1]; rfl) ?_
      refine a_aload_n dX12_count_89 rfl rfl ?_
      refine gf_X12_421 (x := mem 12 0 57) rfl dX12_count_90 ?_
      exact a_iret dX12_count_93 (h.2.2.2.2.2.1 e1)
  · refine a_iconst (k := (-1)) dX12_count_94 (n_lit (by decide)) ?_
    exact a_iret dX12_count_95 (h.2.2.2.2.2.2 e2)
set_option maxRecDepth 10000 in
theorem sg_X12_count_49 {d : Nat} {sx : Option (List Int)} (a1 : Int) (a2 : Int) (a3 : Int) (mem : AMem) (Q : Option AV → AMem → Prop) (h : ((mem 12 0 1) ≤ a3 → (Q (some (vi a2)) mem)) ∧ (¬ (mem 12 0 1) ≤ a3 → ((0 ≤ a3 ∧ a3 < 7) ∧ (Y cX12_count 4 RX12 (d + 1) sx 49 [some (vr 12 0), some (vi a1), some (vi (w32 (a2 + (mem 1305 0 a3)))), some (vi (w32 (a3 + 1)))] [] mem Q)))) : Y cX12_count 4 RX12 (d + 1) sx 49 [some (vr 12 0), some (vi a1), some (vi a2), some (vi a3)] [] mem Q := by
  refine a_iload_n dX12_count_49 rfl rfl ?_
  refine a_aload_n dX12_count_50 rfl rfl ?_
  refine gf_X12_125 (x := mem 12 0 1) rfl dX12_count_51 ?_
  refine a_icmp_ge (tgt := 72) dX12_count_54 (by decide) ⟨fun c1 => ?_, fun c1 => ?_⟩
  · refine a_iload_n dX12_count_72 rfl rfl ?_
    exact a_iret dX12_count_73 (h.1 c1)
  · refine a_iload_n dX12_count_57 rfl rfl ?_
    refine a_aload_n dX12_count_58 rfl rfl ?_
    refine gf_X12_19 dX12_count_59 ?_
    refine a_iload_n dX12_count_62 rfl rfl ?_
    refine a_iald rfl rfl (by decide) rfl dX12_count_63 ⟨(h.2 c1).1, ?_⟩
    refine a_iadd dX12_count_64 ?_
    refine a_istore_n dX12_count_65 rfl (by decide) rfl ?_
    refine a_iinc dX12_count_66 rfl (by decide) rfl ?_
    refine a_goto (tgt := 49) dX12_count_69 (by decide) ?_
    exact (h.2 c1).2
set_option maxRecDepth 10000 in
theorem sg_X12_isShelf_0 {d : Nat} {sx : Option (List Int)} (a0 : Int) (mem : AMem) (Q : Option AV → AMem → Prop) (h : MtX yX12_in cX12_in 3 (some .boolean) d [vi a0, vi 0, vi 5] mem (fun r m1 => ∃ x3 : Int, r = some (vi x3) ∧ (Q (some (vi x3)) m1))) : Y cX12_isShelf 1 RX12 (d + 1) sx 0 [some (vi a0)] [] mem Q := by
  refine a_iload_n dX12_isShelf_0 rfl rfl ?_
  refine a_iconst (k := 0) dX12_isShelf_1 (n_lit (by decide)) ?_
  refine a_iconst (k := 5) dX12_isShelf_2 (n_lit (by decide)) ?_
  refine iv_X12_128 dX12_isShelf_3 (Nat.le_of_ble_eq_true rfl) (MtX_mono h (fun r m1 hq => ?_))
  obtain ⟨x3, rfl, h2⟩ := hq
  refine ⟨x3, rfl, ?_⟩
  exact a_iret dX12_isShelf_6 h2
set_option maxRecDepth 10000 in
theorem sg_X12_keep_0 {d : Nat} {sx : Option (List Int)} (a1 : Int) (a2 : Int) (mem : AMem) (Q : Option AV → AMem → Prop) (h : MtX yX12_isShelf cX12_isShelf 1 (some .boolean) d [vi a1] mem (fun r m1 => ∃ x3 : Int, r = some (vi x3) ∧ ((x3 = (0 : Int) → (Q (some (vi (-1))) m1)) ∧ (¬ x3 = (0 : Int) → ((a2 = (-1 : Int) → ((0 ≤ a1 ∧ a1 < 6) ∧ (Q (some (vi 1)) (upM m1 1359 0 a1 a2)))) ∧ (¬ a2 = (-1 : Int) → (MtX yX12_isBody cX12_isBody 2 (some .boolean) d [vr 12 0, vi a2] m1 (fun r m6 => ∃ x8 : Int, r = some (vi x8) ∧ ((x8 ≠ (0 : Int) → ((0 ≤ a1 ∧ a1 < 6) ∧ (Q (some (vi 1)) (upM m6 1359 0 a1 a2)))) ∧ (x8 = (0 : Int) → (Q (some (vi (-1))) m6))))))))))) : Y cX12_keep 3 RX12 (d + 1) sx 0 [some (vr 12 0), some (vi a1), some (vi a2)] [] mem Q := by
  refine a_iload_n dX12_keep_0 rfl rfl ?_
  refine iv_X12_143 dX12_keep_1 (Nat.le_of_ble_eq_true rfl) (MtX_mono h (fun r m1 hq => ?_))
  obtain ⟨x3, rfl, h2⟩ := hq
  refine ⟨x3, rfl, ?_⟩
  refine a_if_eq (tgt := 20) dX12_keep_4 (by decide) ⟨fun c4 => ?_, fun c4 => ?_⟩
  · refine a_iconst (k := (-1)) dX12_keep_20 (n_lit (by decide)) ?_
    exact a_iret dX12_keep_21 (h2.1 c4)
  · refine a_iload_n dX12_keep_7 rfl rfl ?_
    refine a_iconst (k := (-1)) dX12_keep_8 (n_lit (by decide)) ?_
    refine a_icmp_eq (tgt := 22) dX12_keep_9 (by decide) ⟨fun c5 => ?_, fun c5 => ?_⟩
    · refine a_aload_n dX12_keep_22 rfl rfl ?_
      refine gf_X12_108 dX12_keep_23 ?_
      refine a_iload_n dX12_keep_26 rfl rfl ?_
      refine a_iload_n dX12_keep_27 rfl rfl ?_
      refine a_iast rfl rfl (by decide) rfl dX12_keep_28 ⟨((h2.2 c4).1 c5).1, ?_⟩
      refine a_iconst (k := 1) dX12_keep_29 (n_lit (by decide)) ?_
      exact a_iret dX12_keep_30 ((h2.2 c4).1 c5).2
    · refine a_aload_n dX12_keep_12 rfl rfl ?_
      refine a_iload_n dX12_keep_13 rfl rfl ?_
      refine iv_X12_460 dX12_keep_14 (Nat.le_of_ble_eq_true rfl) (MtX_mono ((h2.2 c4).2 c5) (fun r m6 hq => ?_))
      obtain ⟨x8, rfl, h7⟩ := hq
      refine ⟨x8, rfl, ?_⟩
      refine a_if_ne (tgt := 22) dX12_keep_17 (by decide) ⟨fun c9 => ?_, fun c9 => ?_⟩
      · refine a_aload_n dX12_keep_22 rfl rfl ?_
        refine gf_X12_108 dX12_keep_23 ?_
        refine a_iload_n dX12_keep_26 rfl rfl ?_
        refine a_iload_n dX12_keep_27 rfl rfl ?_
        refine a_iast rfl rfl (by decide) rfl dX12_keep_28 ⟨(h7.1 c9).1, ?_⟩
        refine a_iconst (k := 1) dX12_keep_29 (n_lit (by decide)) ?_
        exact a_iret dX12_keep_30 (h7.1 c9).2
      · refine a_iconst (k := (-1)) dX12_keep_20 (n_lit (by decide)) ?_
        exact a_iret dX12_keep_21 (h7.2 c9)
set_option maxRecDepth 10000 in
theorem sg_X12_row_0 {d : Nat} {sx : Option (List Int)} (a1 : Int) (a2 : Int) (a3 : Int) (mem : AMem) (Q : Option AV → AMem → Prop) (h : MtX yX12_isShelf cX12_isShelf 1 (some .boolean) d [vi a1] mem (fun r m1 => ∃ x3 : Int, r = some (vi x3) ∧ ((x3 = (0 : Int) → (Q (some (vi (-1))) m1)) ∧ (¬ x3 = (0 : Int) → (MtX yX12_in cX12_in 3 (some .boolean) d [vi a2, vi 0, vi 4] m1 (fun r m5 => ∃ x7 : Int, r = some (vi x7) ∧ ((x7 = (0 : Int) → (Q (some (vi (-1))) m5)) ∧ (¬ x7 = (0 : Int) → ((a3 ≤ (60 : Int) → (((0 : Int) ≤ a3 → ((0 ≤ a1 ∧ a1 < 6) ∧ ((0 ≤ a1 ∧ a1 < 6) ∧ (Y cX12_row 5 RX12 (d + 1) sx 54 [some (vr 12 0), some (vi a1), some (vi a2), some (vi a3), some (vi (w32 (60 * a1)))] [] (upM (upM m5 1359 0 a1 (w32 ((-2) - a2))) 1360 0 a1 a3) Q)))) ∧ (¬ (0 : Int) ≤ a3 → (Q (some (vi (-14))) m5)))) ∧ (¬ a3 ≤ (60 : Int) → (Q (some (vi (-1))) m5))))))))))) : Y cX12_row 5 RX12 (d + 1) sx 0 [some (vr 12 0), some (vi a1), some (vi a2), some (vi a3), none] [] mem Q := by
  refine a_iload_n dX12_row_0 rfl rfl ?_
  refine iv_X12_143 dX12_row_1 (Nat.le_of_ble_eq_true rfl) (MtX_mono h (fun r m1 hq => ?_))
  obtain ⟨x3, rfl, h2⟩ := hq
  refine ⟨x3, rfl, ?_⟩
  refine a_if_eq (tgt := 22) dX12_row_4 (by decide) ⟨fun c4 => ?_, fun c4 => ?_⟩
  · refine a_iconst (k := (-1)) dX12_row_22 (n_lit (by decide)) ?_
    exact a_iret dX12_row_23 (h2.1 c4)
  · refine a_iload_n dX12_row_7 rfl rfl ?_
    refine a_iconst (k := 0) dX12_row_8 (n_lit (by decide)) ?_
    refine a_iconst (k := 4) dX12_row_9 (n_lit (by decide)) ?_
    refine iv_X12_128 dX12_row_10 (Nat.le_of_ble_eq_true rfl) (MtX_mono (h2.2 c4) (fun r m5 hq => ?_))
    obtain ⟨x7, rfl, h6⟩ := hq
    refine ⟨x7, rfl, ?_⟩
    refine a_if_eq (tgt := 22) dX12_row_13 (by decide) ⟨fun c8 => ?_, fun c8 => ?_⟩
    · refine a_iconst (k := (-1)) dX12_row_22 (n_lit (by decide)) ?_
      exact a_iret dX12_row_23 (h6.1 c8)
    · refine a_iload_n dX12_row_16 rfl rfl ?_
      refine a_bipush (k := 60) dX12_row_17 (by decide) (n_lit (by decide)) ?_
      refine a_icmp_le (tgt := 24) dX12_row_19 (by decide) ⟨fun c9 => ?_, fun c9 => ?_⟩
      · refine a_iload_n dX12_row_24 rfl rfl ?_
        refine a_if_ge (tgt := 31) dX12_row_25 (by decide) ⟨fun c10 => ?_, fun c10 => ?_⟩
        · refine a_aload_n dX12_row_31 rfl rfl ?_
          refine gf_X12_108 dX12_row_32 ?_
          refine a_iload_n dX12_row_35 rfl rfl ?_
          refine a_bipush (k := (-2)) dX12_row_36 (by decide) (n_lit (by decide)) ?_
          refine a_iload_n dX12_row_38 rfl rfl ?_
          refine a_isub dX12_row_39 ?_
          refine a_iast rfl rfl (by decide) rfl dX12_row_40 ⟨(((h6.2 c8).1 c9).1 c10).1, ?_⟩
          refine a_aload_n dX12_row_41 rfl rfl ?_
          refine gf_X12_111 dX12_row_42 ?_
          refine a_iload_n dX12_row_45 rfl rfl ?_
          refine a_iload_n dX12_row_46 rfl rfl ?_
          refine a_iast rfl rfl (by decide) rfl dX12_row_47 ⟨(((h6.2 c8).1 c9).1 c10).2.1, ?_⟩
          refine a_bipush (k := 60) dX12_row_48 (by decide) (n_lit (by decide)) ?_
          refine a_iload_n dX12_row_50 rfl rfl ?_
          refine a_imul dX12_row_51 ?_
          refine a_istore dX12_row_52 (by decide) rfl ?_
          exact (((h6.2 c8).1 c9).1 c10).2.2
        · refine a_bipush (k := (-14)) dX12_row_28 (by decide) (n_lit (by decide)) ?_
          exact a_iret dX12_row_30 (((h6.2 c8).1 c9).2 c10)
      · refine a_iconst (k := (-1)) dX12_row_22 (n_lit (by decide)) ?_
        exact a_iret dX12_row_23 ((h6.2 c8).2 c9)
set_option maxRecDepth 10000 in
theorem sg_X12_row_54 {d : Nat} {sx : Option (List Int)} (a1 : Int) (a2 : Int) (a3 : Int) (a4 : Int) (mem : AMem) (Q : Option AV → AMem → Prop) (h : ((w32 ((w32 (60 * a1)) + 60)) ≤ a4 → (Q (some (vi 1)) mem)) ∧ (¬ (w32 ((w32 (60 * a1)) + 60)) ≤ a4 → ((0 ≤ a4 ∧ a4 < 360) ∧ (Y cX12_row 5 RX12 (d + 1) sx 54 [some (vr 12 0), some (vi a1), some (vi a2), some (vi a3), some (vi (w32 (a4 + 1)))] [] (upM mem 1361 0 a4 0) Q)))) : Y cX12_row 5 RX12 (d + 1) sx 54 [some (vr 12 0), some (vi a1), some (vi a2), some (vi a3), some (vi a4)] [] mem Q := by
  refine a_iload dX12_row_54 rfl ?_
  refine a_bipush (k := 60) dX12_row_56 (by decide) (n_lit (by decide)) ?_
  refine a_iload_n dX12_row_58 rfl rfl ?_
  refine a_imul dX12_row_59 ?_
  refine a_bipush (k := 60) dX12_row_60 (by decide) (n_lit (by decide)) ?_
  refine a_iadd dX12_row_62 ?_
  refine a_icmp_ge (tgt := 80) dX12_row_63 (by decide) ⟨fun c1 => ?_, fun c1 => ?_⟩
  · refine a_iconst (k := 1) dX12_row_80 (n_lit (by decide)) ?_
    exact a_iret dX12_row_81 (h.1 c1)
  · refine a_aload_n dX12_row_66 rfl rfl ?_
    refine gf_X12_114 dX12_row_67 ?_
    refine a_iload dX12_row_70 rfl ?_
    refine a_lconst (k := 0) dX12_row_72 (by decide) (n_litL (by decide)) ?_
    refine a_last rfl rfl (by decide) rfl dX12_row_73 ⟨(h.2 c1).1, ?_⟩
    refine a_iinc dX12_row_74 rfl (by decide) rfl ?_
    refine a_goto (tgt := 54) dX12_row_77 (by decide) ?_
    exact (h.2 c1).2
set_option maxRecDepth 10000 in
theorem sg_X12_whyNoPlace_0 {d : Nat} {sx : Option (List Int)} (a1 : Int) (a2 : Int) (mem : AMem) (Q : Option AV → AMem → Prop) (h : MtX yX12_isShelf cX12_isShelf 1 (some .boolean) d [vi a1] mem (fun r m1 => ∃ x3 : Int, r = some (vi x3) ∧ ((x3 ≠ (0 : Int) → ((0 ≤ a1 ∧ a1 < 6) ∧ (((m1 1359 0 a1) ≠ (-1 : Int) → ((0 ≤ a1 ∧ a1 < 6) ∧ (((m1 1359 0 a1) < (0 : Int) → ((0 ≤ a1 ∧ a1 < 6) ∧ (MtX yX12_in cX12_in 3 (some .boolean) d [vi a2, vi 0, vi (w32 ((m1 1360 0 a1) - 1))] m1 (fun r m7 => ∃ x9 : Int, r = some (vi x9) ∧ ((x9 = (0 : Int) → (Q (some (vi (-13))) m7)) ∧ (¬ x9 = (0 : Int) → (Q (some (vi 0)) m7))))))) ∧ (¬ (m1 1359 0 a1) < (0 : Int) → (Q (some (vi (-12))) m1))))) ∧ ((m1 1359 0 a1) = (-1 : Int) → (Q (some (vi (-11))) m1))))) ∧ (x3 = (0 : Int) → (Q (some (vi (-1))) m1))))) : Y cX12_whyNoPlace 3 RX12 (d + 1) sx 0 [some (vr 12 0), some (vi a1), some (vi a2)] [] mem Q := by
  refine a_iload_n dX12_whyNoPlace_0 rfl rfl ?_
  refine iv_X12_143 dX12_whyNoPlace_1 (Nat.le_of_ble_eq_true rfl) (MtX_mono h (fun r m1 hq => ?_))
  obtain ⟨x3, rfl, h2⟩ := hq
  refine ⟨x3, rfl, ?_⟩
  refine a_if_ne (tgt := 9) dX12_whyNoPlace_4 (by decide) ⟨fun c4 => ?_, fun c4 => ?_⟩
  · refine a_aload_n dX12_whyNoPlace_9 rfl rfl ?_
    refine gf_X12_108 dX12_whyNoPlace_10 ?_
    refine a_iload_n dX12_whyNoPlace_13 rfl rfl ?_
    refine a_iald rfl rfl (by decide) rfl dX12_whyNoPlace_14 ⟨(h2.1 c4).1, ?_⟩
    refine a_iconst (k := (-1)) dX12_whyNoPlace_15 (n_lit (by decide)) ?_
    refine a_icmp_ne (tgt := 22) dX12_whyNoPlace_16 (by decide) ⟨fun c5 => ?_, fun c5 => ?_⟩
    · refine a_aload_n dX12_whyNoPlace_22 rfl rfl ?_
      refine gf_X12_108 dX12_whyNoPlace_23 ?_
      refine a_iload_n dX12_whyNoPlace_26 rfl rfl ?_
      refine a_iald rfl rfl (by decide) rfl dX12_whyNoPlace_27 ⟨((h2.1 c4).2.1 c5).1, ?_⟩
      refine a_if_lt (tgt := 34) dX12_whyNoPlace_28 (by decide) ⟨fun c6 => ?_, fun c6 => ?_⟩
      · refine a_iload_n dX12_whyNoPlace_34 rfl rfl ?_
        refine a_iconst (k := 0) dX12_whyNoPlace_35 (n_lit (by decide)) ?_
        refine a_aload_n dX12_whyNoPlace_36 rfl rfl ?_
        refine gf_X12_111 dX12_whyNoPlace_37 ?_
        refine a_iload_n dX12_whyNoPlace_40 rfl rfl ?_
        refine a_iald rfl rfl (by decide) rfl dX12_whyNoPlace_41 ⟨(((h2.1 c4).2.1 c5).2.1 c6).1, ?_⟩
        refine a_iconst (k := 1) dX12_whyNoPlace_42 (n_lit (by decide)) ?_
        refine a_isub dX12_whyNoPlace_43 ?_
        refine iv_X12_128 dX12_whyNoPlace_44 (Nat.le_of_ble_eq_true rfl) (MtX_mono (((h2.1 c4).2.1 c5).2.1 c6).2 (fun r m7 hq => ?_))
        obtain ⟨x9, rfl, h8⟩ := hq
        refine ⟨x9, rfl, ?_⟩
        refine a_if_eq (tgt := 54) dX12_whyNoPlace_47 (by decide) ⟨fun c10 => ?_, fun c10 => ?_⟩
        · refine a_bipush (k := (-13)) dX12_whyNoPlace_54 (by decide) (n_lit (by decide)) ?_
          exact a_iret dX12_whyNoPlace_56 (h8.1 c10)
        · refine a_iconst (k := 0) dX12_whyNoPlace_50 (n_lit (by decide)) ?_
          refine a_goto (tgt := 56) dX12_whyNoPlace_51 (by decide) ?_
          exact a_iret dX12_whyNoPlace_56 (h8.2 c10)
      · refine a_bipush (k := (-12)) dX12_whyNoPlace_31 (by decide) (n_lit (by decide)) ?_
        exact a_iret dX12_whyNoPlace_33 (((h2.1 c4).2.1 c5).2.2 c6)
    · refine a_bipush (k := (-11)) dX12_whyNoPlace_19 (by decide) (n_lit (by decide)) ?_
      exact a_iret dX12_whyNoPlace_21 ((h2.1 c4).2.2 c5)
  · refine a_iconst (k := (-1)) dX12_whyNoPlace_7 (n_lit (by decide)) ?_
    exact a_iret dX12_whyNoPlace_8 (h2.2 c4)
set_option maxRecDepth 10000 in
theorem sg_X12_put_0 {d : Nat} {sx : Option (List Int)} (a1 : Int) (a2 : Int) (a3 : Int) (mem : AMem) (Q : Option AV → AMem → Prop) (h : MtX yX12_whyNoPlace cX12_whyNoPlace 3 (some .int) d [vr 12 0, vi a1, vi a2] mem (fun r m1 => ∃ x3 : Int, r = some (vi x3) ∧ (((0 : Int) ≤ x3 → ((0 ≤ a1 ∧ a1 < 6) ∧ (((w32 ((-2) - (m1 1359 0 a1))) ≠ (0 : Int) → (((w32 ((-2) - (m1 1359 0 a1))) ≠ (1 : Int) → (((w32 ((-2) - (m1 1359 0 a1))) ≠ (2 : Int) → (((w32 ((-2) - (m1 1359 0 a1))) ≠ (3 : Int) → (((lc a3 0) = (0 : Int) → ((0 ≤ (w32 ((w32 (60 * a1)) + a2)) ∧ (w32 ((w32 (60 * a1)) + a2)) < 360) ∧ (Q (some (vi 1)) (upM m1 1361 0 (w32 ((w32 (60 * a1)) + a2)) 0)))) ∧ (¬ (lc a3 0) = (0 : Int) → ((0 ≤ (w32 ((w32 (60 * a1)) + a2)) ∧ (w32 ((w32 (60 * a1)) + a2)) < 360) ∧ (Q (some (vi 1)) (upM m1 1361 0 (w32 ((w32 (60 * a1)) + a2)) 1)))))) ∧ ((w32 ((-2) - (m1 1359 0 a1))) = (3 : Int) → ((0 ≤ (w32 ((w32 (60 * a1)) + a2)) ∧ (w32 ((w32 (60 * a1)) + a2)) < 360) ∧ (Q (some (vi 1)) (upM m1 1361 0 (w32 ((w32 (60 * a1)) + a2)) a3)))))) ∧ ((w32 ((-2) - (m1 1359 0 a1))) = (2 : Int) → ((0 ≤ (w32 ((w32 (60 * a1)) + a2)) ∧ (w32 ((w32 (60 * a1)) + a2)) < 360) ∧ (Q (some (vi 1)) (upM m1 1361 0 (w32 ((w32 (60 * a1)) + a2)) (w32 a3))))))) ∧ ((w32 ((-2) - (m1 1359 0 a1))) = (1 : Int) → ((0 ≤ (w32 ((w32 (60 * a1)) + a2)) ∧ (w32 ((w32 (60 * a1)) + a2)) < 360) ∧ (Q (some (vi 1)) (upM m1 1361 0 (w32 ((w32 (60 * a1)) + a2)) (s16 (w32 a3)))))))) ∧ ((w32 ((-2) - (m1 1359 0 a1))) = (0 : Int) → ((0 ≤ (w32 ((w32 (60 * a1)) + a2)) ∧ (w32 ((w32 (60 * a1)) + a2)) < 360) ∧ (Q (some (vi 1)) (upM m1 1361 0 (w32 ((w32 (60 * a1)) + a2)) (b8 (w32 a3))))))))) ∧ (¬ (0 : Int) ≤ x3 → (Q (some (vi x3)) m1))))) : Y cX12_put 7 RX12 (d + 1) sx 0 [some (vr 12 0), some (vi a1), some (vi a2), some (vl a3), none, none, none] [] mem Q := by
  refine a_aload_n dX12_put_0 rfl rfl ?_
  refine a_iload_n dX12_put_1 rfl rfl ?_
  refine a_iload_n dX12_put_2 rfl rfl ?_
  refine iv_X12_466 dX12_put_3 (Nat.le_of_ble_eq_true rfl) (MtX_mono h (fun r m1 hq => ?_))
  obtain ⟨x3, rfl, h2⟩ := hq
  refine ⟨x3, rfl, ?_⟩
  refine a_istore dX12_put_6 (by decide) rfl ?_
  refine a_iload dX12_put_8 rfl ?_
  refine a_if_ge (tgt := 16) dX12_put_10 (by decide) ⟨fun c4 => ?_, fun c4 => ?_⟩
  · refine a_bipush (k := (-2)) dX12_put_16 (by decide) (n_lit (by decide)) ?_
    refine a_aload_n dX12_put_18 rfl rfl ?_
    refine gf_X12_108 dX12_put_19 ?_
    refine a_iload_n dX12_put_22 rfl rfl ?_
    refine a_iald rfl rfl (by decide) rfl dX12_put_23 ⟨(h2.1 c4).1, ?_⟩
    refine a_isub dX12_put_24 ?_
    refine a_istore dX12_put_25 (by decide) rfl ?_
    refine a_aload_n dX12_put_27 rfl rfl ?_
    refine gf_X12_114 dX12_put_28 ?_
    refine a_bipush (k := 60) dX12_put_31 (by decide) (n_lit (by decide)) ?_
    refine a_iload_n dX12_put_33 rfl rfl ?_
    refine a_imul dX12_put_34 ?_
    refine a_iload_n dX12_put_35 rfl rfl ?_
    refine a_iadd dX12_put_36 ?_
    refine a_iload dX12_put_37 rfl ?_
    refine a_if_ne (tgt := 49) dX12_put_39 (by decide) ⟨fun c5 => ?_, fun c5 => ?_⟩
    · refine a_iload dX12_put_49 rfl ?_
      refine a_iconst (k := 1) dX12_put_51 (n_lit (by decide)) ?_
      refine a_icmp_ne (tgt := 62) dX12_put_52 (by decide) ⟨fun c6 => ?_, fun c6 => ?_⟩
      · refine a_iload dX12_put_62 rfl ?_
        refine a_iconst (k := 2) dX12_put_64 (n_lit (by decide)) ?_
        refine a_icmp_ne (tgt := 74) dX12_put_65 (by decide) ⟨fun c7 => ?_, fun c7 => ?_⟩
        · refine a_iload dX12_put_74 rfl ?_
          refine a_iconst (k := 3) dX12_put_76 (n_lit (by decide)) ?_
          refine a_icmp_ne (tgt := 84) dX12_put_77 (by decide) ⟨fun c8 => ?_, fun c8 => ?_⟩
          · refine a_lload_n dX12_put_84 rfl rfl ?_
            refine a_lconst (k := 0) dX12_put_85 (by decide) (n_litL (by decide)) ?_
            refine a_lcmp dX12_put_86 ?_
            refine a_if_eq (tgt := 94) dX12_put_87 (by decide) ⟨fun c9 => ?_, fun c9 => ?_⟩
            · refine a_lconst (k := 0) dX12_put_94 (by decide) (n_litL (by decide)) ?_
              refine a_last rfl rfl (by decide) rfl dX12_put_95 ⟨((((((h2.1 c4).2.1 c5).1 c6).1 c7).1 c8).1 c9).1, ?_⟩
              refine a_iconst (k := 1) dX12_put_96 (n_lit (by decide)) ?_
              exact a_iret dX12_put_97 ((((((h2.1 c4).2.1 c5).1 c6).1 c7).1 c8).1 c9).2
            · refine a_lconst (k := 1) dX12_put_90 (by decide) (n_litL (by decide)) ?_
              refine a_goto (tgt := 95) dX12_put_91 (by decide) ?_
              refine a_last rfl rfl (by decide) rfl dX12_put_95 ⟨((((((h2.1 c4).2.1 c5).1 c6).1 c7).1 c8).2 c9).1, ?_⟩
              refine a_iconst (k := 1) dX12_put_96 (n_lit (by decide)) ?_
              exact a_iret dX12_put_97 ((((((h2.1 c4).2.1 c5).1 c6).1 c7).1 c8).2 c9).2
          · refine a_lload_n dX12_put_80 rfl rfl ?_
            refine a_goto (tgt := 95) dX12_put_81 (by decide) ?_
            refine a_last rfl rfl (by decide) rfl dX12_put_95 ⟨(((((h2.1 c4).2.1 c5).1 c6).1 c7).2 c8).1, ?_⟩
            refine a_iconst (k := 1) dX12_put_96 (n_lit (by decide)) ?_
            exact a_iret dX12_put_97 (((((h2.1 c4).2.1 c5).1 c6).1 c7).2 c8).2
        · refine a_lload_n dX12_put_68 rfl rfl ?_
          refine a_l2i dX12_put_69 ?_
          refine a_i2l dX12_put_70 ?_
          refine a_goto (tgt := 95) dX12_put_71 (by decide) ?_
          refine a_last rfl rfl (by decide) rfl dX12_put_95 ⟨((((h2.1 c4).2.1 c5).1 c6).2 c7).1, ?_⟩
          refine a_iconst (k := 1) dX12_put_96 (n_lit (by decide)) ?_
          exact a_iret dX12_put_97 ((((h2.1 c4).2.1 c5).1 c6).2 c7).2
      · refine a_lload_n dX12_put_55 rfl rfl ?_
        refine a_l2i dX12_put_56 ?_
        refine a_i2s dX12_put_57 ?_
        refine a_i2l dX12_put_58 ?_
        refine a_goto (tgt := 95) dX12_put_59 (by decide) ?_
        refine a_last rfl rfl (by decide) rfl dX12_put_95 ⟨(((h2.1 c4).2.1 c5).2 c6).1, ?_⟩
        refine a_iconst (k := 1) dX12_put_96 (n_lit (by decide)) ?_
        exact a_iret dX12_put_97 (((h2.1 c4).2.1 c5).2 c6).2
    · refine a_lload_n dX12_put_42 rfl rfl ?_
      refine a_l2i dX12_put_43 ?_
      refine a_i2b dX12_put_44 ?_
      refine a_i2l dX12_put_45 ?_
      refine a_goto (tgt := 95) dX12_put_46 (by decide) ?_
      refine a_last rfl rfl (by decide) rfl dX12_put_95 ⟨((h2.1 c4).2.2 c5).1, ?_⟩
      refine a_iconst (k := 1) dX12_put_96 (n_lit (by decide)) ?_
      exact a_iret dX12_put_97 ((h2.1 c4).2.2 c5).2
  · refine a_iload dX12_put_13 rfl ?_
    exact a_iret dX12_put_15 (h2.2 c4)
set_option maxRecDepth 10000 in
theorem sg_X12_element_0 {d : Nat} {sx : Option (List Int)} (a1 : Int) (a2 : Int) (mem : AMem) (Q : Option AV → AMem → Prop) (h : MtX yX12_whyNoPlace cX12_whyNoPlace 3 (some .int) d [vr 12 0, vi a1, vi a2] mem (fun r m1 => ∃ x3 : Int, r = some (vi x3) ∧ (((0 : Int) ≤ x3 → ((0 ≤ (w32 ((w32 (60 * a1)) + a2)) ∧ (w32 ((w32 (60 * a1)) + a2)) < 360) ∧ (Q (some (vl (m1 1361 0 (w32 ((w32 (60 * a1)) + a2))))) m1))) ∧ (¬ (0 : Int) ≤ x3 → (Q (some (vl (-9223372036854775808))) m1))))) : Y cX12_element 3 RX12 (d + 1) sx 0 [some (vr 12 0), some (vi a1), some (vi a2)] [] mem Q := by
  refine a_aload_n dX12_element_0 rfl rfl ?_
  refine a_iload_n dX12_element_1 rfl rfl ?_
  refine a_iload_n dX12_element_2 rfl rfl ?_
  refine iv_X12_466 dX12_element_3 (Nat.le_of_ble_eq_true rfl) (MtX_mono h (fun r m1 hq => ?_))
  obtain ⟨x3, rfl, h2⟩ := hq
  refine ⟨x3, rfl, ?_⟩
  refine a_if_ge (tgt := 15) dX12_element_6 (by decide) ⟨fun c4 => ?_, fun c4 => ?_⟩
  · refine a_aload_n dX12_element_15 rfl rfl ?_
    refine gf_X12_114 dX12_element_16 ?_
    refine a_bipush (k := 60) dX12_element_19 (by decide) (n_lit (by decide)) ?_
    refine a_iload_n dX12_element_21 rfl rfl ?_
    refine a_imul dX12_element_22 ?_
    refine a_iload_n dX12_element_23 rfl rfl ?_
    refine a_iadd dX12_element_24 ?_
    refine a_lald rfl rfl (by decide) rfl dX12_element_25 ⟨(h2.1 c4).1, ?_⟩
    exact a_lret dX12_element_26 (h2.1 c4).2
  · refine a_ldc2 (k := (-9223372036854775808)) cl_X12_471 (n_litL (by decide)) dX12_element_9 ?_
    refine a_goto (tgt := 26) dX12_element_12 (by decide) ?_
    exact a_lret dX12_element_26 (h2.2 c4)
set_option maxRecDepth 10000 in
theorem sg_X12_shift_0 {d : Nat} {sx : Option (List Int)} (a1 : Int) (a2 : Int) (a3 : Int) (a4 : Int) (a5 : Int) (mem : AMem) (Q : Option AV → AMem → Prop) (h : MtX yX12_isShelf cX12_isShelf 1 (some .boolean) d [vi a1] mem (fun r m1 => ∃ x3 : Int, r = some (vi x3) ∧ ((x3 = (0 : Int) → (Q (some (vi (-1))) m1)) ∧ (¬ x3 = (0 : Int) → (MtX yX12_isShelf cX12_isShelf 1 (some .boolean) d [vi a3] m1 (fun r m5 => ∃ x7 : Int, r = some (vi x7) ∧ ((x7 ≠ (0 : Int) → ((0 ≤ a1 ∧ a1 < 6) ∧ (((m5 1359 0 a1) = (-1 : Int) → (Q (some (vi (-11))) m5)) ∧ (¬ (m5 1359 0 a1) = (-1 : Int) → ((0 ≤ a3 ∧ a3 < 6) ∧ (((m5 1359 0 a3) ≠ (-1 : Int) → ((0 ≤ a1 ∧ a1 < 6) ∧ (((0 : Int) ≤ (m5 1359 0 a1) → (Q (some (vi (-12))) m5)) ∧ (¬ (0 : Int) ≤ (m5 1359 0 a1) → ((0 ≤ a1 ∧ a1 < 6) ∧ ((0 ≤ a3 ∧ a3 < 6) ∧ (((m5 1359 0 a1) = (m5 1359 0 a3) → ((a5 < (0 : Int) → (Q (some (vi (-13))) m5)) ∧ (¬ a5 < (0 : Int) → ((a2 < (0 : Int) → (Q (some (vi (-13))) m5)) ∧ (¬ a2 < (0 : Int) → ((a4 < (0 : Int) → (Q (some (vi (-13))) m5)) ∧ (¬ a4 < (0 : Int) → ((0 ≤ a1 ∧ a1 < 6) ∧ (((w32 ((m5 1360 0 a1) - a5)) < a2 → (Q (some (vi (-13))) m5)) ∧ (¬ (w32 ((m5 1360 0 a1) - a5)) < a2 → ((0 ≤ a3 ∧ a3 < 6) ∧ ((a4 ≤ (w32 ((m5 1360 0 a3) - a5)) → (Y cX12_shift 7 RX12 (d + 1) sx 113 [some (vr 12 0), some (vi a1), some (vi a2), some (vi a3), some (vi a4), some (vi a5), some (vi 0)] [] m5 Q)) ∧ (¬ a4 ≤ (w32 ((m5 1360 0 a3) - a5)) → (Q (some (vi (-13))) m5)))))))))))))) ∧ (¬ (m5 1359 0 a1) = (m5 1359 0 a3) → (Q (some (vi (-12))) m5))))))))) ∧ ((m5 1359 0 a3) = (-1 : Int) → (Q (some (vi (-11))) m5)))))))) ∧ (x7 = (0 : Int) → (Q (some (vi (-1))) m5))))))))) : Y cX12_shift 7 RX12 (d + 1) sx 0 [some (vr 12 0), some (vi a1), some (vi a2), some (vi a3), some (vi a4), some (vi a5), none] [] mem Q := by
  refine a_iload_n dX12_shift_0 rfl rfl ?_
  refine iv_X12_143 dX12_shift_1 (Nat.le_of_ble_eq_true rfl) (MtX_mono h (fun r m1 hq => ?_))
  obtain ⟨x3, rfl, h2⟩ := hq
  refine ⟨x3, rfl, ?_⟩
  refine a_if_eq (tgt := 14) dX12_shift_4 (by decide) ⟨fun c4 => ?_, fun c4 => ?_⟩
  · refine a_iconst (k := (-1)) dX12_shift_14 (n_lit (by decide)) ?_
    exact a_iret dX12_shift_15 (h2.1 c4)
  · refine a_iload_n dX12_shift_7 rfl rfl ?_
    refine iv_X12_143 dX12_shift_8 (Nat.le_of_ble_eq_true rfl) (MtX_mono (h2.2 c4) (fun r m5 hq => ?_))
    obtain ⟨x7, rfl, h6⟩ := hq
    refine ⟨x7, rfl, ?_⟩
    refine a_if_ne (tgt := 16) dX12_shift_11 (by decide) ⟨fun c8 => ?_, fun c8 => ?_⟩
    · refine a_aload_n dX12_shift_16 rfl rfl ?_
      refine gf_X12_108 dX12_shift_17 ?_
      refine a_iload_n dX12_shift_20 rfl rfl ?_
      refine a_iald rfl rfl (by decide) rfl dX12_shift_21 ⟨(h6.1 c8).1, ?_⟩
      refine a_iconst (k := (-1)) dX12_shift_22 (n_lit (by decide)) ?_
      refine a_icmp_eq (tgt := 36) dX12_shift_23 (by decide) ⟨fun c9 => ?_, fun c9 => ?_⟩
      · refine a_bipush (k := (-11)) dX12_shift_36 (by decide) (n_lit (by decide)) ?_
        exact a_iret dX12_shift_38 ((h6.1 c8).2.1 c9)
      · refine a_aload_n dX12_shift_26 rfl rfl ?_
        refine gf_X12_108 dX12_shift_27 ?_
        refine a_iload_n dX12_shift_30 rfl rfl ?_
        refine a_iald rfl rfl (by decide) rfl dX12_shift_31 ⟨((h6.1 c8).2.2 c9).1, ?_⟩
        refine a_iconst (k := (-1)) dX12_shift_32 (n_lit (by decide)) ?_
        refine a_icmp_ne (tgt := 39) dX12_shift_33 (by decide) ⟨fun c10 => ?_, fun c10 => ?_⟩
        · refine a_aload_n dX12_shift_39 rfl rfl ?_
          refine gf_X12_108 dX12_shift_40 ?_
          refine a_iload_n dX12_shift_43 rfl rfl ?_
          refine a_iald rfl rfl (by decide) rfl dX12_shift_44 ⟨(((h6.1 c8).2.2 c9).2.1 c10).1, ?_⟩
          refine a_if_ge (tgt := 63) dX12_shift_45 (by decide) ⟨fun c11 => ?_, fun c11 => ?_⟩
          · refine a_bipush (k := (-12)) dX12_shift_63 (by decide) (n_lit (by decide)) ?_
            exact a_iret dX12_shift_65 ((((h6.1 c8).2.2 c9).2.1 c10).2.1 c11)
          · refine a_aload_n dX12_shift_48 rfl rfl ?_
            refine gf_X12_108 dX12_shift_49 ?_
            refine a_iload_n dX12_shift_52 rfl rfl ?_
            refine a_iald rfl rfl (by decide) rfl dX12_shift_53 ⟨((((h6.1 c8).2.2 c9).2.1 c10).2.2 c11).1, ?_⟩
            refine a_aload_n dX12_shift_54 rfl rfl ?_
            refine gf_X12_108 dX12_shift_55 ?_
            refine a_iload_n dX12_shift_58 rfl rfl ?_
            refine a_iald rfl rfl (by decide) rfl dX12_shift_59 ⟨((((h6.1 c8).2.2 c9).2.1 c10).2.2 c11).2.1, ?_⟩
            refine a_icmp_eq (tgt := 66) dX12_shift_60 (by decide) ⟨fun c12 => ?_, fun c12 => ?_⟩
            · refine a_iload dX12_shift_66 rfl ?_
              refine a_if_lt (tgt := 107) dX12_shift_68 (by decide) ⟨fun c13 => ?_, fun c13 => ?_⟩
              · refine a_bipush (k := (-13)) dX12_shift_107 (by decide) (n_lit (by decide)) ?_
                exact a_iret dX12_shift_109 ((((((h6.1 c8).2.2 c9).2.1 c10).2.2 c11).2.2.1 c12).1 c13)
              · refine a_iload_n dX12_shift_71 rfl rfl ?_
                refine a_if_lt (tgt := 107) dX12_shift_72 (by decide) ⟨fun c14 => ?_, fun c14 => ?_⟩
                · refine a_bipush (k := (-13)) dX12_shift_107 (by decide) (n_lit (by decide)) ?_
                  exact a_iret dX12_shift_109 (((((((h6.1 c8).2.2 c9).2.1 c10).2.2 c11).2.2.1 c12).2 c13).1 c14)
                · refine a_iload dX12_shift_75 rfl ?_
                  refine a_if_lt (tgt := 107) dX12_shift_77 (by decide) ⟨fun c15 => ?_, fun c15 => ?_⟩
                  · refine a_bipush (k := (-13)) dX12_shift_107 (by decide) (n_lit (by decide)) ?_
                    exact a_iret dX12_shift_109 ((((((((h6.1 c8).2.2 c9).2.1 c10).2.2 c11).2.2.1 c12).2 c13).2 c14).1 c15)
                  · refine a_iload_n dX12_shift_80 rfl rfl ?_
                    refine a_aload_n dX12_shift_81 rfl rfl ?_
                    refine gf_X12_111 dX12_shift_82 ?_
                    refine a_iload_n dX12_shift_85 rfl rfl ?_
                    refine a_iald rfl rfl (by decide) rfl dX12_shift_86 ⟨((((((((h6.1 c8).2.2 c9).2.1 c10).2.2 c11).2.2.1 c12).2 c13).2 c14).2 c15).1, ?_⟩
                    refine a_iload dX12_shift_87 rfl ?_
                    refine a_isub dX12_shift_89 ?_
                    refine a_icmp_gt (tgt := 107) dX12_shift_90 (by decide) ⟨fun c16 => ?_, fun c16 => ?_⟩
                    · refine a_bipush (k := (-13)) dX12_shift_107 (by decide) (n_lit (by decide)) ?_
                      exact a_iret dX12_shift_109 (((((((((h6.1 c8).2.2 c9).2.1 c10).2.2 c11).2.2.1 c12).2 c13).2 c14).2 c15).2.1 c16)
                    · refine a_iload dX12_shift_93 rfl ?_
                      refine a_aload_n dX12_shift_95 rfl rfl ?_
                      refine gf_X12_111 dX12_shift_96 ?_
                      refine a_iload_n dX12_shift_99 rfl rfl ?_
                      refine a_iald rfl rfl (by decide) rfl dX12_shift_100 ⟨(((((((((h6.1 c8).2.2 c9).2.1 c10).2.2 c11).2.2.1 c12).2 c13).2 c14).2 c15).2.2 c16).1, ?_⟩
                      refine a_iload dX12_shift_101 rfl ?_
                      refine a_isub dX12_shift_103 ?_
                      refine a_icmp_le (tgt := 110) dX12_shift_104 (by decide) ⟨fun c17 => ?_, fun c17 => ?_⟩
                      · refine a_iconst (k := 0) dX12_shift_110 (n_lit (by decide)) ?_
                        refine a_istore dX12_shift_111 (by decide) rfl ?_
                        exact ((((((((((h6.1 c8).2.2 c9).2.1 c10).2.2 c11).2.2.1 c12).2 c13).2 c14).2 c15).2.2 c16).2.1 c17)
                      · refine a_bipush (k := (-13)) dX12_shift_107 (by decide) (n_lit (by decide)) ?_
                        exact a_iret dX12_shift_109 ((((((((((h6.1 c8).2.2 c9).2.1 c10).2.2 c11).2.2.1 c12).2 c13).2 c14).2 c15).2.2 c16).2.2 c17)
            · refine a_bipush (k := (-12)) dX12_shift_63 (by decide) (n_lit (by decide)) ?_
              exact a_iret dX12_shift_65 (((((h6.1 c8).2.2 c9).2.1 c10).2.2 c11).2.2.2 c12)
        · refine a_bipush (k := (-11)) dX12_shift_36 (by decide) (n_lit (by decide)) ?_
          exact a_iret dX12_shift_38 (((h6.1 c8).2.2 c9).2.2 c10)
    · refine a_iconst (k := (-1)) dX12_shift_14 (n_lit (by decide)) ?_
      exact a_iret dX12_shift_15 (h6.2 c8)
set_option maxRecDepth 10000 in
theorem sg_X12_shift_113 {d : Nat} {sx : Option (List Int)} (a1 : Int) (a2 : Int) (a3 : Int) (a4 : Int) (a5 : Int) (a6 : Int) (mem : AMem) (Q : Option AV → AMem → Prop) (h : (a5 ≤ a6 → (Y cX12_shift 7 RX12 (d + 1) sx 150 [some (vr 12 0), some (vi a1), some (vi a2), some (vi a3), some (vi a4), some (vi a5), some (vi 0)] [] mem Q)) ∧ (¬ a5 ≤ a6 → ((0 ≤ (w32 ((w32 ((w32 (60 * a1)) + a2)) + a6)) ∧ (w32 ((w32 ((w32 (60 * a1)) + a2)) + a6)) < 360) ∧ ((0 ≤ a6 ∧ a6 < 60) ∧ (Y cX12_shift 7 RX12 (d + 1) sx 113 [some (vr 12 0), some (vi a1), some (vi a2), some (vi a3), some (vi a4), some (vi a5), some (vi (w32 (a6 + 1)))] [] (upM mem 1362 0 a6 (mem 1361 0 (w32 ((w32 ((w32 (60 * a1)) + a2)) + a6)))) Q))))) : Y cX12_shift 7 RX12 (d + 1) sx 113 [some (vr 12 0), some (vi a1), some (vi a2), some (vi a3), some (vi a4), some (vi a5), some (vi a6)] [] mem Q := by
  refine a_iload dX12_shift_113 rfl ?_
  refine a_iload dX12_shift_115 rfl ?_
  refine a_icmp_ge (tgt := 147) dX12_shift_117 (by decide) ⟨fun c1 => ?_, fun c1 => ?_⟩
  · refine a_iconst (k := 0) dX12_shift_147 (n_lit (by decide)) ?_
    refine a_istore dX12_shift_148 (by decide) rfl ?_
    exact (h.1 c1)
  · refine a_aload_n dX12_shift_120 rfl rfl ?_
    refine gf_X12_118 dX12_shift_121 ?_
    refine a_iload dX12_shift_124 rfl ?_
    refine a_aload_n dX12_shift_126 rfl rfl ?_
    refine gf_X12_114 dX12_shift_127 ?_
    refine a_bipush (k := 60) dX12_shift_130 (by decide) (n_lit (by decide)) ?_
    refine a_iload_n dX12_shift_132 rfl rfl ?_
    refine a_imul dX12_shift_133 ?_
    refine a_iload_n dX12_shift_134 rfl rfl ?_
    refine a_iadd dX12_shift_135 ?_
    refine a_iload dX12_shift_136 rfl ?_
    refine a_iadd dX12_shift_138 ?_
    refine a_lald rfl rfl (by decide) rfl dX12_shift_139 ⟨(h.2 c1).1, ?_⟩
    refine a_last rfl rfl (by decide) rfl dX12_shift_140 ⟨(h.2 c1).2.1, ?_⟩
    refine a_iinc dX12_shift_141 rfl (by decide) rfl ?_
    refine a_goto (tgt := 113) dX12_shift_144 (by decide) ?_
    exact (h.2 c1).2.2
set_option maxRecDepth 10000 in
theorem sg_X12_shift_150 {d : Nat} {sx : Option (List Int)} (a1 : Int) (a2 : Int) (a3 : Int) (a4 : Int) (a5 : Int) (a6 : Int) (mem : AMem) (Q : Option AV → AMem → Prop) (h : (a5 ≤ a6 → (Q (some (vi a5)) mem)) ∧ (¬ a5 ≤ a6 → ((0 ≤ a6 ∧ a6 < 60) ∧ ((0 ≤ (w32 ((w32 ((w32 (60 * a3)) + a4)) + a6)) ∧ (w32 ((w32 ((w32 (60 * a3)) + a4)) + a6)) < 360) ∧ (Y cX12_shift 7 RX12 (d + 1) sx 150 [some (vr 12 0), some (vi a1), some (vi a2), some (vi a3), some (vi a4), some (vi a5), some (vi (w32 (a6 + 1)))] [] (upM mem 1361 0 (w32 ((w32 ((w32 (60 * a3)) + a4)) + a6)) (mem 1362 0 a6)) Q))))) : Y cX12_shift 7 RX12 (d + 1) sx 150 [some (vr 12 0), some (vi a1), some (vi a2), some (vi a3), some (vi a4), some (vi a5), some (vi a6)] [] mem Q := by
  refine a_iload dX12_shift_150 rfl ?_
  refine a_iload dX12_shift_152 rfl ?_
  refine a_icmp_ge (tgt := 185) dX12_shift_154 (by decide) ⟨fun c1 => ?_, fun c1 => ?_⟩
  · refine a_iload dX12_shift_185 rfl ?_
    exact a_iret dX12_shift_187 (h.1 c1)
  · refine a_aload_n dX12_shift_157 rfl rfl ?_
    refine gf_X12_114 dX12_shift_158 ?_
    refine a_bipush (k := 60) dX12_shift_161 (by decide) (n_lit (by decide)) ?_
    refine a_iload_n dX12_shift_163 rfl rfl ?_
    refine a_imul dX12_shift_164 ?_
    refine a_iload dX12_shift_165 rfl ?_
    refine a_iadd dX12_shift_167 ?_
    refine a_iload dX12_shift_168 rfl ?_
    refine a_iadd dX12_shift_170 ?_
    refine a_aload_n dX12_shift_171 rfl rfl ?_
    refine gf_X12_118 dX12_shift_172 ?_
    refine a_iload dX12_shift_175 rfl ?_
    refine a_lald rfl rfl (by decide) rfl dX12_shift_177 ⟨(h.2 c1).1, ?_⟩
    refine a_last rfl rfl (by decide) rfl dX12_shift_178 ⟨(h.2 c1).2.1, ?_⟩
    refine a_iinc dX12_shift_179 rfl (by decide) rfl ?_
    refine a_goto (tgt := 150) dX12_shift_182 (by decide) ?_
    exact (h.2 c1).2.2
set_option maxRecDepth 10000 in
theorem sg_X12_taken_0 {d : Nat} {sx : Option (List Int)} (a1 : Int) (a2 : Int) (mem : AMem) (Q : Option AV → AMem → Prop) (h : MtX yX12_isShelf cX12_isShelf 1 (some .boolean) d [vi a1] mem (fun r m1 => ∃ x3 : Int, r = some (vi x3) ∧ ((x3 = (0 : Int) → (Q (some (vi (-1))) m1)) ∧ (¬ x3 = (0 : Int) → (MtX yX12_in cX12_in 3 (some .boolean) d [vi a2, vi 0, vi 7] m1 (fun r m5 => ∃ x7 : Int, r = some (vi x7) ∧ ((x7 ≠ (0 : Int) → ((0 ≤ a1 ∧ a1 < 6) ∧ (((m5 1359 0 a1) ≠ (-1 : Int) → ((0 ≤ a1 ∧ a1 < 6) ∧ (((m5 1359 0 a1) < (0 : Int) → (Q (some (vi (-12))) m5)) ∧ (¬ (m5 1359 0 a1) < (0 : Int) → ((0 ≤ a1 ∧ a1 < 6) ∧ ((0 ≤ (m5 1359 0 a1) ∧ (m5 1359 0 a1) < 50) ∧ (MtX yX12_isUnder cX12_isUnder 2 (some .boolean) d [vi (m5 1356 0 (m5 1359 0 a1)), vi a2] m5 (fun r m11 => ∃ x13 : Int, r = some (vi x13) ∧ ((x13 = (0 : Int) → (Q (some (vi (-12))) m11)) ∧ (¬ x13 = (0 : Int) → ((0 ≤ a1 ∧ a1 < 6) ∧ ((0 ≤ (m11 1359 0 a1) ∧ (m11 1359 0 a1) < 50) ∧ (Q (some (vi (m11 1356 0 (m11 1359 0 a1)))) m11))))))))))))) ∧ ((m5 1359 0 a1) = (-1 : Int) → (Q (some (vi (-11))) m5))))) ∧ (x7 = (0 : Int) → (Q (some (vi (-1))) m5))))))))) : Y cX12_taken 3 RX12 (d + 1) sx 0 [some (vr 12 0), some (vi a1), some (vi a2)] [] mem Q := by
  refine a_iload_n dX12_taken_0 rfl rfl ?_
  refine iv_X12_143 dX12_taken_1 (Nat.le_of_ble_eq_true rfl) (MtX_mono h (fun r m1 hq => ?_))
  obtain ⟨x3, rfl, h2⟩ := hq
  refine ⟨x3, rfl, ?_⟩
  refine a_if_eq (tgt := 17) dX12_taken_4 (by decide) ⟨fun c4 => ?_, fun c4 => ?_⟩
  · refine a_iconst (k := (-1)) dX12_taken_17 (n_lit (by decide)) ?_
    exact a_iret dX12_taken_18 (h2.1 c4)
  · refine a_iload_n dX12_taken_7 rfl rfl ?_
    refine a_iconst (k := 0) dX12_taken_8 (n_lit (by decide)) ?_
    refine a_bipush (k := 7) dX12_taken_9 (by decide) (n_lit (by decide)) ?_
    refine iv_X12_128 dX12_taken_11 (Nat.le_of_ble_eq_true rfl) (MtX_mono (h2.2 c4) (fun r m5 hq => ?_))
    obtain ⟨x7, rfl, h6⟩ := hq
    refine ⟨x7, rfl, ?_⟩
    refine a_if_ne (tgt := 19) dX12_taken_14 (by decide) ⟨fun c8 => ?_, fun c8 => ?_⟩
    · refine a_aload_n dX12_taken_19 rfl rfl ?_
      refine gf_X12_108 dX12_taken_20 ?_
      refine a_iload_n dX12_taken_23 rfl rfl ?_
      refine a_iald rfl rfl (by decide) rfl dX12_taken_24 ⟨(h6.1 c8).1, ?_⟩
      refine a_iconst (k := (-1)) dX12_taken_25 (n_lit (by decide)) ?_
      refine a_icmp_ne (tgt := 32) dX12_taken_26 (by decide) ⟨fun c9 => ?_, fun c9 => ?_⟩
      · refine a_aload_n dX12_taken_32 rfl rfl ?_
        refine gf_X12_108 dX12_taken_33 ?_
        refine a_iload_n dX12_taken_36 rfl rfl ?_
        refine a_iald rfl rfl (by decide) rfl dX12_taken_37 ⟨((h6.1 c8).2.1 c9).1, ?_⟩
        refine a_if_lt (tgt := 73) dX12_taken_38 (by decide) ⟨fun c10 => ?_, fun c10 => ?_⟩
        · refine a_bipush (k := (-12)) dX12_taken_73 (by decide) (n_lit (by decide)) ?_
          exact a_iret dX12_taken_75 (((h6.1 c8).2.1 c9).2.1 c10)
        · refine a_aload_n dX12_taken_41 rfl rfl ?_
          refine gf_X12_102 dX12_taken_42 ?_
          refine a_aload_n dX12_taken_45 rfl rfl ?_
          refine gf_X12_108 dX12_taken_46 ?_
          refine a_iload_n dX12_taken_49 rfl rfl ?_
          refine a_iald rfl rfl (by decide) rfl dX12_taken_50 ⟨(((h6.1 c8).2.1 c9).2.2 c10).1, ?_⟩
          refine a_iald rfl rfl (by decide) rfl dX12_taken_51 ⟨(((h6.1 c8).2.1 c9).2.2 c10).2.1, ?_⟩
          refine a_iload_n dX12_taken_52 rfl rfl ?_
          refine iv_X12_430 dX12_taken_53 (Nat.le_of_ble_eq_true rfl) (MtX_mono (((h6.1 c8).2.1 c9).2.2 c10).2.2 (fun r m11 hq => ?_))
          obtain ⟨x13, rfl, h12⟩ := hq
          refine ⟨x13, rfl, ?_⟩
          refine a_if_eq (tgt := 73) dX12_taken_56 (by decide) ⟨fun c14 => ?_, fun c14 => ?_⟩
          · refine a_bipush (k := (-12)) dX12_taken_73 (by decide) (n_lit (by decide)) ?_
            exact a_iret dX12_taken_75 (h12.1 c14)
          · refine a_aload_n dX12_taken_59 rfl rfl ?_
            refine gf_X12_102 dX12_taken_60 ?_
            refine a_aload_n dX12_taken_63 rfl rfl ?_
            refine gf_X12_108 dX12_taken_64 ?_
            refine a_iload_n dX12_taken_67 rfl rfl ?_
            refine a_iald rfl rfl (by decide) rfl dX12_taken_68 ⟨(h12.2 c14).1, ?_⟩
            refine a_iald rfl rfl (by decide) rfl dX12_taken_69 ⟨(h12.2 c14).2.1, ?_⟩
            refine a_goto (tgt := 75) dX12_taken_70 (by decide) ?_
            exact a_iret dX12_taken_75 (h12.2 c14).2.2
      · refine a_bipush (k := (-11)) dX12_taken_29 (by decide) (n_lit (by decide)) ?_
        exact a_iret dX12_taken_31 ((h6.1 c8).2.2 c9)
    · refine a_iconst (k := (-1)) dX12_taken_17 (n_lit (by decide)) ?_
      exact a_iret dX12_taken_18 (h6.2 c8)
