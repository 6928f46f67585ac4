set_option maxRecDepth 10000 in
theorem sg_X12_in_0 {d : Nat} {sx : Option (List Int)} (a0 : Int) (a1 : Int) (a2 : Int) (mem : AMem) (Q : Option AV → AMem → Prop) (h : (a0 < a1 → (Q (some (vi 0)) mem)) ∧ (¬ a0 < a1 → ((a2 < a0 → (Q (some (vi 0)) mem)) ∧ (¬ a2 < a0 → (Q (some (vi 1)) mem))))) : Y cX12_in 3 RX12 (d + 1) sx 0 [some (vi a0), some (vi a1), some (vi a2)] [] mem Q := by
  refine a_iload_n dX12_in_0 rfl rfl ?_
  refine a_iload_n dX12_in_1 rfl rfl ?_
  refine a_icmp_lt (tgt := 14) dX12_in_2 (by decide) ⟨fun c1 => ?_, fun c1 => ?_⟩
  · refine a_iconst (k := 0) dX12_in_14 (n_lit (by decide)) ?_
    exact a_iret dX12_in_15 (h.1 c1)
  · refine a_iload_n dX12_in_5 rfl rfl ?_
    refine a_iload_n dX12_in_6 rfl rfl ?_
    refine a_icmp_gt (tgt := 14) dX12_in_7 (by decide) ⟨fun c2 => ?_, fun c2 => ?_⟩
    · refine a_iconst (k := 0) dX12_in_14 (n_lit (by decide)) ?_
      exact a_iret dX12_in_15 ((h.2 c1).1 c2)
    · refine a_iconst (k := 1) dX12_in_10 (n_lit (by decide)) ?_
      refine a_goto (tgt := 15) dX12_in_11 (by decide) ?_
      exact a_iret dX12_in_15 ((h.2 c1).2 c2)
set_option maxRecDepth 10000 in
theorem sg_X12_apart_0 {d : Nat} {sx : Option (List Int)} (a0 : Int) (a1 : Int) (mem : AMem) (Q : Option AV → AMem → Prop) (h : (a1 ≤ a0 → (Q (some (vi (w32 (a0 - a1)))) mem)) ∧ (¬ a1 ≤ a0 → (Q (some (vi (w32 (a1 - a0)))) mem))) : Y cX12_apart 2 RX12 (d + 1) sx 0 [some (vi a0), some (vi a1)] [] mem Q := by
  refine a_iload_n dX12_apart_0 rfl rfl ?_
  refine a_iload_n dX12_apart_1 rfl rfl ?_
  refine a_icmp_ge (tgt := 11) dX12_apart_2 (by decide) ⟨fun c1 => ?_, fun c1 => ?_⟩
  · refine a_iload_n dX12_apart_11 rfl rfl ?_
    refine a_iload_n dX12_apart_12 rfl rfl ?_
    refine a_isub dX12_apart_13 ?_
    exact a_iret dX12_apart_14 (h.1 c1)
  · refine a_iload_n dX12_apart_5 rfl rfl ?_
    refine a_iload_n dX12_apart_6 rfl rfl ?_
    refine a_isub dX12_apart_7 ?_
    refine a_goto (tgt := 14) dX12_apart_8 (by decide) ?_
    exact a_iret dX12_apart_14 (h.2 c1)
set_option maxRecDepth 10000 in
theorem sg_X12_bitsOf_0 {d : Nat} {sx : Option (List Int)} (a0 : Int) (mem : AMem) (Q : Option AV → AMem → Prop) (h : Y cX12_bitsOf 3 RX12 (d + 1) sx 4 [some (vi a0), some (vi 0), some (vi a0)] [] mem Q) : Y cX12_bitsOf 3 RX12 (d + 1) sx 0 [some (vi a0), none, none] [] mem Q := by
  refine a_iconst (k := 0) dX12_bitsOf_0 (n_lit (by decide)) ?_
  refine a_istore_n dX12_bitsOf_1 rfl (by decide) rfl ?_
  refine a_iload_n dX12_bitsOf_2 rfl rfl ?_
  refine a_istore_n dX12_bitsOf_3 rfl (by decide) rfl ?_
  exact h
set_option maxRecDepth 10000 in
theorem sg_X12_bitsOf_4 {d : Nat} {sx : Option (List Int)} (a0 : Int) (a1 : Int) (a2 : Int) (mem : AMem) (Q : Option AV → AMem → Prop) (h : (a2 = (0 : Int) → (Q (some (vi a1)) mem)) ∧ (¬ a2 = (0 : Int) → (Y cX12_bitsOf 3 RX12 (d + 1) sx 4 [some (vi a0), some (vi (w32 (a1 + 1))), some (vi (an32 a2 (w32 (a2 - 1))))] [] mem Q))) : Y cX12_bitsOf 3 RX12 (d + 1) sx 4 [some (vi a0), some (vi a1), some (vi a2)] [] mem Q := by
  refine a_iload_n dX12_bitsOf_4 rfl rfl ?_
  refine a_if_eq (tgt := 20) dX12_bitsOf_5 (by decide) ⟨fun c1 => ?_, fun c1 => ?_⟩
  · refine a_iload_n dX12_bitsOf_20 rfl rfl ?_
    exact a_iret dX12_bitsOf_21 (h.1 c1)
  · refine a_iinc dX12_bitsOf_8 rfl (by decide) rfl ?_
    refine a_iload_n dX12_bitsOf_11 rfl rfl ?_
    refine a_iload_n dX12_bitsOf_12 rfl rfl ?_
    refine a_iconst (k := 1) dX12_bitsOf_13 (n_lit (by decide)) ?_
    refine a_isub dX12_bitsOf_14 ?_
    refine a_iand dX12_bitsOf_15 ?_
    refine a_istore_n dX12_bitsOf_16 rfl (by decide) rfl ?_
    refine a_goto (tgt := 4) dX12_bitsOf_17 (by decide) ?_
    exact (h.2 c1)
set_option maxRecDepth 10000 in
theorem sg_X12_isDefender_0 {d : Nat} {sx : Option (List Int)} (a1 : Int) (mem : AMem) (Q : Option AV → AMem → Prop) (h : MtX yX12_in cX12_in 3 (some .boolean) d [vi a1, vi 0, vi (w32 ((mem 12 0 1) - 1))] mem (fun r m1 => ∃ x3 : Int, r = some (vi x3) ∧ (Q (some (vi x3)) m1))) : Y cX12_isDefender 2 RX12 (d + 1) sx 0 [some (vr 12 0), some (vi a1)] [] mem Q := by
  refine a_iload_n dX12_isDefender_0 rfl rfl ?_
  refine a_iconst (k := 0) dX12_isDefender_1 (n_lit (by decide)) ?_
  refine a_aload_n dX12_isDefender_2 rfl rfl ?_
  refine gf_X12_125 (x := mem 12 0 1) rfl dX12_isDefender_3 ?_
  refine a_iconst (k := 1) dX12_isDefender_6 (n_lit (by decide)) ?_
  refine a_isub dX12_isDefender_7 ?_
  refine iv_X12_128 dX12_isDefender_8 (Nat.le_of_ble_eq_true rfl) (MtX_mono h (fun r m1 hq => ?_))
  obtain ⟨x3, rfl, h2⟩ := hq
  refine ⟨x3, rfl, ?_⟩
  exact a_iret dX12_isDefender_11 h2
set_option maxRecDepth 10000 in
theorem sg_X12_isColumn_0 {d : Nat} {sx : Option (List Int)} (a0 : Int) (mem : AMem) (Q : Option AV → AMem → Prop) (h : MtX yX12_in cX12_in 3 (some .boolean) d [vi a0, vi 0, vi 8] mem (fun r m1 => ∃ x3 : Int, r = some (vi x3) ∧ (Q (some (vi x3)) m1))) : Y cX12_isColumn 1 RX12 (d + 1) sx 0 [some (vi a0)] [] mem Q := by
  refine a_iload_n dX12_isColumn_0 rfl rfl ?_
  refine a_iconst (k := 0) dX12_isColumn_1 (n_lit (by decide)) ?_
  refine a_bipush (k := 8) dX12_isColumn_2 (by decide) (n_lit (by decide)) ?_
  refine iv_X12_128 dX12_isColumn_4 (Nat.le_of_ble_eq_true rfl) (MtX_mono h (fun r m1 hq => ?_))
  obtain ⟨x3, rfl, h2⟩ := hq
  refine ⟨x3, rfl, ?_⟩
  exact a_iret dX12_isColumn_7 h2
set_option maxRecDepth 10000 in
theorem sg_X12_isRow_0 {d : Nat} {sx : Option (List Int)} (a0 : Int) (mem : AMem) (Q : Option AV → AMem → Prop) (h : MtX yX12_in cX12_in 3 (some .boolean) d [vi a0, vi 1, vi 8] mem (fun r m1 => ∃ x3 : Int, r = some (vi x3) ∧ (Q (some (vi x3)) m1))) : Y cX12_isRow 1 RX12 (d + 1) sx 0 [some (vi a0)] [] mem Q := by
  refine a_iload_n dX12_isRow_0 rfl rfl ?_
  refine a_iconst (k := 1) dX12_isRow_1 (n_lit (by decide)) ?_
  refine a_bipush (k := 8) dX12_isRow_2 (by decide) (n_lit (by decide)) ?_
  refine iv_X12_128 dX12_isRow_4 (Nat.le_of_ble_eq_true rfl) (MtX_mono h (fun r m1 hq => ?_))
  obtain ⟨x3, rfl, h2⟩ := hq
  refine ⟨x3, rfl, ?_⟩
  exact a_iret dX12_isRow_7 h2
set_option maxRecDepth 10000 in
theorem sg_X12_addDefender_0 {d : Nat} {sx : Option (List Int)} (a1 : Int) (a2 : Int) (a3 : Int) (mem : AMem) (Q : Option AV → AMem → Prop) (h : (0 ≤ (mem 12 0 1) ∧ (mem 12 0 1) < 7) ∧ ((0 ≤ (mem 12 0 1) ∧ (mem 12 0 1) < 7) ∧ ((0 ≤ (mem 12 0 1) ∧ (mem 12 0 1) < 7) ∧ ((0 ≤ (mem 12 0 1) ∧ (mem 12 0 1) < 7) ∧ (Q (some (vi (w32 ((w32 ((mem 12 0 1) + 1)) - 1)))) (upM (upM (upM (upM (upM mem 1302 0 (mem 12 0 1) a1) 1303 0 (mem 12 0 1) a2) 1304 0 (mem 12 0 1) a3) 1305 0 (mem 12 0 1) 1) 12 0 1 (w32 ((mem 12 0 1) + 1)))))))) : Y cX12_addDefender 4 RX12 (d + 1) sx 0 [some (vr 12 0), some (vi a1), some (vi a2), some (vi a3)] [] mem Q := by
  refine a_aload_n dX12_addDefender_0 rfl rfl ?_
  refine gf_X12_7 dX12_addDefender_1 ?_
  refine a_aload_n dX12_addDefender_4 rfl rfl ?_
  refine gf_X12_125 (x := mem 12 0 1) rfl dX12_addDefender_5 ?_
  refine a_iload_n dX12_addDefender_8 rfl rfl ?_
  refine a_iast rfl rfl (by decide) rfl dX12_addDefender_9 ⟨h.1, ?_⟩
  refine a_aload_n dX12_addDefender_10 rfl rfl ?_
  refine gf_X12_13 dX12_addDefender_11 ?_
  refine a_aload_n dX12_addDefender_14 rfl rfl ?_
  refine gf_X12_125 (x := mem 12 0 1) rfl dX12_addDefender_15 ?_
  refine a_iload_n dX12_addDefender_18 rfl rfl ?_
  refine a_iast rfl rfl (by decide) rfl dX12_addDefender_19 ⟨h.2.1, ?_⟩
  refine a_aload_n dX12_addDefender_20 rfl rfl ?_
  refine gf_X12_16 dX12_addDefender_21 ?_
  refine a_aload_n dX12_addDefender_24 rfl rfl ?_
  refine gf_X12_125 (x := mem 12 0 1) rfl dX12_addDefender_25 ?_
  refine a_iload_n dX12_addDefender_28 rfl rfl ?_
  refine a_iast rfl rfl (by decide) rfl dX12_addDefender_29 ⟨h.2.2.1, ?_⟩
  refine a_aload_n dX12_addDefender_30 rfl rfl ?_
  refine gf_X12_19 dX12_addDefender_31 ?_
  refine a_aload_n dX12_addDefender_34 rfl rfl ?_
  refine gf_X12_125 (x := mem 12 0 1) rfl dX12_addDefender_35 ?_
  refine a_iconst (k := 1) dX12_addDefender_38 (n_lit (by decide)) ?_
  refine a_iast rfl rfl (by decide) rfl dX12_addDefender_39 ⟨h.2.2.2.1, ?_⟩
  refine a_aload_n dX12_addDefender_40 rfl rfl ?_
  refine a_dup dX12_addDefender_41 rfl ?_
  refine gf_X12_125 (x := mem 12 0 1) rfl dX12_addDefender_42 ?_
  refine a_iconst (k := 1) dX12_addDefender_45 (n_lit (by decide)) ?_
  refine a_iadd dX12_addDefender_46 ?_
  refine pf_X12_125 dX12_addDefender_47 ?_
  refine a_aload_n dX12_addDefender_50 rfl rfl ?_
  refine gf_X12_125 (x := w32 ((mem 12 0 1) + 1)) rfl dX12_addDefender_51 ?_
  refine a_iconst (k := 1) dX12_addDefender_54 (n_lit (by decide)) ?_
  refine a_isub dX12_addDefender_55 ?_
  exact a_iret dX12_addDefender_56 h.2.2.2.2
set_option maxRecDepth 10000 in
theorem sg_X12_defender_0 {d : Nat} {sx : Option (List Int)} (a1 : Int) (a2 : Int) (mem : AMem) (Q : Option AV → AMem → Prop) (h : (a1 < (0 : Int) → (Q (some (vi (-1))) mem)) ∧ (¬ a1 < (0 : Int) → (MtX yX12_isRow cX12_isRow 1 (some .boolean) d [vi (w32 (Int.tdiv a1 10))] mem (fun r m2 => ∃ x4 : Int, r = some (vi x4) ∧ ((x4 = (0 : Int) → (Q (some (vi (-1))) m2)) ∧ (¬ x4 = (0 : Int) → (MtX yX12_isColumn cX12_isColumn 1 (some .boolean) d [vi (Int.tmod a1 10)] m2 (fun r m6 => ∃ x8 : Int, r = some (vi x8) ∧ ((x8 = (0 : Int) → (Q (some (vi (-1))) m6)) ∧ (¬ x8 = (0 : Int) → (MtX yX12_in cX12_in 3 (some .boolean) d [vi a2, vi 0, vi 9] m6 (fun r m10 => ∃ x12 : Int, r = some (vi x12) ∧ ((x12 ≠ (0 : Int) → (((m10 12 0 1) ≠ (7 : Int) → (MtX yX12_addDefender cX12_addDefender 4 (some .int) d [vr 12 0, vi (Int.tmod a1 10), vi (w32 (Int.tdiv a1 10)), vi a2] m10 (fun r m15 => ∃ x17 : Int, r = some (vi x17) ∧ (Q (some (vi x17)) m15)))) ∧ ((m10 12 0 1) = (7 : Int) → (Q (some (vi (-3))) m10)))) ∧ (x12 = (0 : Int) → (Q (some (vi (-1))) m10))))))))))))))) : Y cX12_defender 3 RX12 (d + 1) sx 0 [some (vr 12 0), some (vi a1), some (vi a2)] [] mem Q := by
  refine a_iload_n dX12_defender_0 rfl rfl ?_
  refine a_if_lt (tgt := 34) dX12_defender_1 (by decide) ⟨fun c1 => ?_, fun c1 => ?_⟩
  · refine a_iconst (k := (-1)) dX12_defender_34 (n_lit (by decide)) ?_
    exact a_iret dX12_defender_35 (h.1 c1)
  · refine a_iload_n dX12_defender_4 rfl rfl ?_
    refine a_bipush (k := 10) dX12_defender_5 (by decide) (n_lit (by decide)) ?_
    refine a_idiv dX12_defender_7 (by decide) ?_
    refine iv_X12_132 dX12_defender_8 (Nat.le_of_ble_eq_true rfl) (MtX_mono (h.2 c1) (fun r m2 hq => ?_))
    obtain ⟨x4, rfl, h3⟩ := hq
    refine ⟨x4, rfl, ?_⟩
    refine a_if_eq (tgt := 34) dX12_defender_11 (by decide) ⟨fun c5 => ?_, fun c5 => ?_⟩
    · refine a_iconst (k := (-1)) dX12_defender_34 (n_lit (by decide)) ?_
      exact a_iret dX12_defender_35 (h3.1 c5)
    · refine a_iload_n dX12_defender_14 rfl rfl ?_
      refine a_bipush (k := 10) dX12_defender_15 (by decide) (n_lit (by decide)) ?_
      refine a_irem dX12_defender_17 (by decide) ?_
      refine iv_X12_136 dX12_defender_18 (Nat.le_of_ble_eq_true rfl) (MtX_mono (h3.2 c5) (fun r m6 hq => ?_))
      obtain ⟨x8, rfl, h7⟩ := hq
      refine ⟨x8, rfl, ?_⟩
      refine a_if_eq (tgt := 34) dX12_defender_21 (by decide) ⟨fun c9 => ?_, fun c9 => ?_⟩
      · refine a_iconst (k := (-1)) dX12_defender_34 (n_lit (by decide)) ?_
        exact a_iret dX12_defender_35 (h7.1 c9)
      · refine a_iload_n dX12_defender_24 rfl rfl ?_
        refine a_iconst (k := 0) dX12_defender_25 (n_lit (by decide)) ?_
        refine a_bipush (k := 9) dX12_defender_26 (by decide) (n_lit (by decide)) ?_
        refine iv_X12_128 dX12_defender_28 (Nat.le_of_ble_eq_true rfl) (MtX_mono (h7.2 c9) (fun r m10 hq => ?_))
        obtain ⟨x12, rfl, h11⟩ := hq
        refine ⟨x12, rfl, ?_⟩
        refine a_if_ne (tgt := 36) dX12_defender_31 (by decide) ⟨fun c13 => ?_, fun c13 => ?_⟩
        · refine a_aload_n dX12_defender_36 rfl rfl ?_
          refine gf_X12_125 (x := m10 12 0 1) rfl dX12_defender_37 ?_
          refine a_bipush (k := 7) dX12_defender_40 (by decide) (n_lit (by decide)) ?_
          refine a_icmp_ne (tgt := 50) dX12_defender_42 (by decide) ⟨fun c14 => ?_, fun c14 => ?_⟩
          · refine a_aload_n dX12_defender_50 rfl rfl ?_
            refine a_iload_n dX12_defender_51 rfl rfl ?_
            refine a_bipush (k := 10) dX12_defender_52 (by decide) (n_lit (by decide)) ?_
            refine a_irem dX12_defender_54 (by decide) ?_
            refine a_iload_n dX12_defender_55 rfl rfl ?_
            refine a_bipush (k := 10) dX12_defender_56 (by decide) (n_lit (by decide)) ?_
            refine a_idiv dX12_defender_58 (by decide) ?_
            refine a_iload_n dX12_defender_59 rfl rfl ?_
            refine iv_X12_139 dX12_defender_60 (Nat.le_of_ble_eq_true rfl) (MtX_mono ((h11.1 c13).1 c14) (fun r m15 hq => ?_))
            obtain ⟨x17, rfl, h16⟩ := hq
            refine ⟨x17, rfl, ?_⟩
            exact a_iret dX12_defender_63 h16
          · refine a_bipush (k := (-3)) dX12_defender_45 (by decide) (n_lit (by decide)) ?_
            refine a_goto (tgt := 63) dX12_defender_47 (by decide) ?_
            exact a_iret dX12_defender_63 ((h11.1 c13).2 c14)
        · refine a_iconst (k := (-1)) dX12_defender_34 (n_lit (by decide)) ?_
          exact a_iret dX12_defender_35 (h11.2 c13)
set_option maxRecDepth 10000 in
theorem sg_X12_defenders_0 {d : Nat} {sx : Option (List Int)} (a1 : Int) (a2 : Int) (a3 : Int) (mem : AMem) (Q : Option AV → AMem → Prop) (h : MtX yX12_isShelf cX12_isShelf 1 (some .boolean) d [vi a1] mem (fun r m1 => ∃ x3 : Int, r = some (vi x3) ∧ ((x3 = (0 : Int) → (Q (some (vi (-1))) m1)) ∧ (¬ x3 = (0 : Int) → (MtX yX12_in cX12_in 3 (some .boolean) d [vi a3, vi 1, vi 7] m1 (fun r m5 => ∃ x7 : Int, r = some (vi x7) ∧ ((x7 ≠ (0 : Int) → ((0 ≤ a1 ∧ a1 < 6) ∧ (((m5 1359 0 a1) = (-1 : Int) → ((0 ≤ a1 ∧ a1 < 6) ∧ (((m5 1359 0 a1) ≠ (-1 : Int) → (Y cX12_defenders 8 RX12 (d + 1) sx 58 [some (vr 12 0), some (vi a1), some (vi a2), some (vi a3), some (vi 0), none, none, none] [] m5 Q)) ∧ ((m5 1359 0 a1) = (-1 : Int) → (Q (some (vi 0)) m5))))) ∧ (¬ (m5 1359 0 a1) = (-1 : Int) → ((0 ≤ a1 ∧ a1 < 6) ∧ (((m5 1359 0 a1) = (-2 : Int) → ((0 ≤ a1 ∧ a1 < 6) ∧ (((m5 1359 0 a1) ≠ (-1 : Int) → (Y cX12_defenders 8 RX12 (d + 1) sx 58 [some (vr 12 0), some (vi a1), some (vi a2), some (vi a3), some (vi 0), none, none, none] [] m5 Q)) ∧ ((m5 1359 0 a1) = (-1 : Int) → (Q (some (vi 0)) m5))))) ∧ (¬ (m5 1359 0 a1) = (-2 : Int) → (Q (some (vi (-12))) m5)))))))) ∧ (x7 = (0 : Int) → (Q (some (vi (-1))) m5))))))))) : Y cX12_defenders 8 RX12 (d + 1) sx 0 [some (vr 12 0), some (vi a1), some (vi a2), some (vi a3), none, none, none, none] [] mem Q := by
  refine a_iload_n dX12_defenders_0 rfl rfl ?_
  refine iv_X12_143 dX12_defenders_1 (Nat.le_of_ble_eq_true rfl) (MtX_mono h (fun r m1 hq => ?_))
  obtain ⟨x3, rfl, h2⟩ := hq
  refine ⟨x3, rfl, ?_⟩
  refine a_if_eq (tgt := 17) dX12_defenders_4 (by decide) ⟨fun c4 => ?_, fun c4 => ?_⟩
  · refine a_iconst (k := (-1)) dX12_defenders_17 (n_lit (by decide)) ?_
    exact a_iret dX12_defenders_18 (h2.1 c4)
  · refine a_iload_n dX12_defenders_7 rfl rfl ?_
    refine a_iconst (k := 1) dX12_defenders_8 (n_lit (by decide)) ?_
    refine a_bipush (k := 7) dX12_defenders_9 (by decide) (n_lit (by decide)) ?_
    refine iv_X12_128 dX12_defenders_11 (Nat.le_of_ble_eq_true rfl) (MtX_mono (h2.2 c4) (fun r m5 hq => ?_))
    obtain ⟨x7, rfl, h6⟩ := hq
    refine ⟨x7, rfl, ?_⟩
    refine a_if_ne (tgt := 19) dX12_defenders_14 (by decide) ⟨fun c8 => ?_, fun c8 => ?_⟩
    · refine a_aload_n dX12_defenders_19 rfl rfl ?_
      refine gf_X12_108 dX12_defenders_20 ?_
      refine a_iload_n dX12_defenders_23 rfl rfl ?_
      refine a_iald rfl rfl (by decide) rfl dX12_defenders_24 ⟨(h6.1 c8).1, ?_⟩
      refine a_iconst (k := (-1)) dX12_defenders_25 (n_lit (by decide)) ?_
      refine a_icmp_eq (tgt := 43) dX12_defenders_26 (by decide) ⟨fun c9 => ?_, fun c9 => ?_⟩
      · refine a_aload_n dX12_defenders_43 rfl rfl ?_
        refine gf_X12_108 dX12_defenders_44 ?_
        refine a_iload_n dX12_defenders_47 rfl rfl ?_
        refine a_iald rfl rfl (by decide) rfl dX12_defenders_48 ⟨((h6.1 c8).2.1 c9).1, ?_⟩
        refine a_iconst (k := (-1)) dX12_defenders_49 (n_lit (by decide)) ?_
        refine a_icmp_ne (tgt := 55) dX12_defenders_50 (by decide) ⟨fun c10 => ?_, fun c10 => ?_⟩
        · refine a_iconst (k := 0) dX12_defenders_55 (n_lit (by decide)) ?_
          refine a_istore dX12_defenders_56 (by decide) rfl ?_
          exact (((h6.1 c8).2.1 c9).2.1 c10)
        · refine a_iconst (k := 0) dX12_defenders_53 (n_lit (by decide)) ?_
          exact a_iret dX12_defenders_54 (((h6.1 c8).2.1 c9).2.2 c10)
      · refine a_aload_n dX12_defenders_29 rfl rfl ?_
        refine gf_X12_108 dX12_defenders_30 ?_
        refine a_iload_n dX12_defenders_33 rfl rfl ?_
        refine a_iald rfl rfl (by decide) rfl dX12_defenders_34 ⟨((h6.1 c8).2.2 c9).1, ?_⟩
        refine a_bipush (k := (-2)) dX12_defenders_35 (by decide) (n_lit (by decide)) ?_
        refine a_icmp_eq (tgt := 43) dX12_defenders_37 (by decide) ⟨fun c11 => ?_, fun c11 => ?_⟩
        · refine a_aload_n dX12_defenders_43 rfl rfl ?_
          refine gf_X12_108 dX12_defenders_44 ?_
          refine a_iload_n dX12_defenders_47 rfl rfl ?_
          refine a_iald rfl rfl (by decide) rfl dX12_defenders_48 ⟨(((h6.1 c8).2.2 c9).2.1 c11).1, ?_⟩
          refine a_iconst (k := (-1)) dX12_defenders_49 (n_lit (by decide)) ?_
          refine a_icmp_ne (tgt := 55) dX12_defenders_50 (by decide) ⟨fun c12 => ?_, fun c12 => ?_⟩
          · refine a_iconst (k := 0) dX12_defenders_55 (n_lit (by decide)) ?_
            refine a_istore dX12_defenders_56 (by decide) rfl ?_
            exact ((((h6.1 c8).2.2 c9).2.1 c11).2.1 c12)
          · refine a_iconst (k := 0) dX12_defenders_53 (n_lit (by decide)) ?_
            exact a_iret dX12_defenders_54 ((((h6.1 c8).2.2 c9).2.1 c11).2.2 c12)
        · refine a_bipush (k := (-12)) dX12_defenders_40 (by decide) (n_lit (by decide)) ?_
          exact a_iret dX12_defenders_42 (((h6.1 c8).2.2 c9).2.2 c11)
    · refine a_iconst (k := (-1)) dX12_defenders_17 (n_lit (by decide)) ?_
      exact a_iret dX12_defenders_18 (h6.2 c8)
set_option maxRecDepth 10000 in
theorem sg_X12_defenders_58 {d : Nat} {sx : Option (List Int)} (a1 : Int) (a2 : Int) (a3 : Int) (a4 : Int) (mem : AMem) (Q : Option AV → AMem → Prop) (h : (a3 ≤ a4 → (Q (some (vi a3)) mem)) ∧ (¬ a3 ≤ a4 → (((lc (w64 (a2 + (w32 (3 * a4)))) 0) < (0 : Int) → (Q (some (vi a4)) mem)) ∧ (¬ (lc (w64 (a2 + (w32 (3 * a4)))) 0) < (0 : Int) → ((0 ≤ a1 ∧ a1 < 6) ∧ (((0 : Int) ≤ (lc (w64 ((w64 (a2 + (w32 (3 * a4)))) + 2)) (mem 1360 0 a1)) → (Q (some (vi a4)) mem)) ∧ (¬ (0 : Int) ≤ (lc (w64 ((w64 (a2 + (w32 (3 * a4)))) + 2)) (mem 1360 0 a1)) → (((mem 12 0 1) ≠ (7 : Int) → ((0 ≤ (w32 ((w32 (60 * a1)) + (w32 (w64 (a2 + (w32 (3 * a4))))))) ∧ (w32 ((w32 (60 * a1)) + (w32 (w64 (a2 + (w32 (3 * a4))))))) < 360) ∧ (MtX yX12_isColumn cX12_isColumn 1 (some .boolean) d [vi (w32 (mem 1361 0 (w32 ((w32 (60 * a1)) + (w32 (w64 (a2 + (w32 (3 * a4)))))))))] mem (fun r m5 => ∃ x7 : Int, r = some (vi x7) ∧ ((x7 = (0 : Int) → (Q (some (vi a4)) m5)) ∧ (¬ x7 = (0 : Int) → ((0 ≤ (w32 ((w32 ((w32 (60 * a1)) + (w32 (w64 (a2 + (w32 (3 * a4))))))) + 1)) ∧ (w32 ((w32 ((w32 (60 * a1)) + (w32 (w64 (a2 + (w32 (3 * a4))))))) + 1)) < 360) ∧ (MtX yX12_isRow cX12_isRow 1 (some .boolean) d [vi (w32 (m5 1361 0 (w32 ((w32 ((w32 (60 * a1)) + (w32 (w64 (a2 + (w32 (3 * a4))))))) + 1))))] m5 (fun r m9 => ∃ x11 : Int, r = some (vi x11) ∧ ((x11 = (0 : Int) → (Q (some (vi a4)) m9)) ∧ (¬ x11 = (0 : Int) → ((0 ≤ (w32 ((w32 ((w32 (60 * a1)) + (w32 (w64 (a2 + (w32 (3 * a4))))))) + 2)) ∧ (w32 ((w32 ((w32 (60 * a1)) + (w32 (w64 (a2 + (w32 (3 * a4))))))) + 2)) < 360) ∧ (MtX yX12_in cX12_in 3 (some .boolean) d [vi (w32 (m9 1361 0 (w32 ((w32 ((w32 (60 * a1)) + (w32 (w64 (a2 + (w32 (3 * a4))))))) + 2)))), vi 0, vi 9] m9 (fun r m13 => ∃ x15 : Int, r = some (vi x15) ∧ ((x15 ≠ (0 : Int) → ((0 ≤ (w32 ((w32 (60 * a1)) + (w32 (w64 (a2 + (w32 (3 * a4))))))) ∧ (w32 ((w32 (60 * a1)) + (w32 (w64 (a2 + (w32 (3 * a4))))))) < 360) ∧ ((0 ≤ (w32 ((w32 ((w32 (60 * a1)) + (w32 (w64 (a2 + (w32 (3 * a4))))))) + 1)) ∧ (w32 ((w32 ((w32 (60 * a1)) + (w32 (w64 (a2 + (w32 (3 * a4))))))) + 1)) < 360) ∧ ((0 ≤ (w32 ((w32 ((w32 (60 * a1)) + (w32 (w64 (a2 + (w32 (3 * a4))))))) + 2)) ∧ (w32 ((w32 ((w32 (60 * a1)) + (w32 (w64 (a2 + (w32 (3 * a4))))))) + 2)) < 360) ∧ (MtX yX12_addDefender cX12_addDefender 4 (some .int) d [vr 12 0, vi (w32 (m13 1361 0 (w32 ((w32 (60 * a1)) + (w32 (w64 (a2 + (w32 (3 * a4))))))))), vi (w32 (m13 1361 0 (w32 ((w32 ((w32 (60 * a1)) + (w32 (w64 (a2 + (w32 (3 * a4))))))) + 1)))), vi (w32 (m13 1361 0 (w32 ((w32 ((w32 (60 * a1)) + (w32 (w64 (a2 + (w32 (3 * a4))))))) + 2))))] m13 (fun r m17 => ∃ x19 : Int, r = some (vi x19) ∧ (Y cX12_defenders 8 RX12 (d + 1) sx 58 [some (vr 12 0), some (vi a1), some (vi a2), some (vi a3), some (vi (w32 (a4 + 1))), some (vl (w64 (a2 + (w32 (3 * a4))))), none, some (vi (w32 ((w32 (60 * a1)) + (w32 (w64 (a2 + (w32 (3 * a4))))))))] [] m17 Q))))))) ∧ (x15 = (0 : Int) → (Q (some (vi a4)) m13))))))))))))))))) ∧ ((mem 12 0 1) = (7 : Int) → (Q (some (vi a4)) mem)))))))))) : Y cX12_defenders 8 RX12 (d + 1) sx 58 [some (vr 12 0), some (vi a1), some (vi a2), some (vi a3), some (vi a4), none, none, none] [] mem Q := by
  refine a_iload dX12_defenders_58 rfl ?_
  refine a_iload_n dX12_defenders_60 rfl rfl ?_
  refine a_icmp_ge (tgt := 211) dX12_defenders_61 (by decide) ⟨fun c1 => ?_, fun c1 => ?_⟩
  · refine a_iload_n dX12_defenders_211 rfl rfl ?_
    exact a_iret dX12_defenders_212 (h.1 c1)
  · refine a_iload_n dX12_defenders_64 rfl rfl ?_
    refine a_i2l dX12_defenders_65 ?_
    refine a_iconst (k := 3) dX12_defenders_66 (n_lit (by decide)) ?_
    refine a_iload dX12_defenders_67 rfl ?_
    refine a_imul dX12_defenders_69 ?_
    refine a_i2l dX12_defenders_70 ?_
    refine a_ladd dX12_defenders_71 ?_
    refine a_lstore dX12_defenders_72 (by decide) rfl ?_
    refine a_lload dX12_defenders_74 rfl ?_
    refine a_lconst (k := 0) dX12_defenders_76 (by decide) (n_litL (by decide)) ?_
    refine a_lcmp dX12_defenders_77 ?_
    refine a_if_lt (tgt := 107) dX12_defenders_78 (by decide) ⟨fun c2 => ?_, fun c2 => ?_⟩
    · refine a_iload dX12_defenders_107 rfl ?_
      exact a_iret dX12_defenders_109 ((h.2 c1).1 c2)
    · refine a_lload dX12_defenders_81 rfl ?_
      refine a_ldc2 (k := 2) cl_X12_146 (n_litL (by decide)) dX12_defenders_83 ?_
      refine a_ladd dX12_defenders_86 ?_
      refine a_aload_n dX12_defenders_87 rfl rfl ?_
      refine gf_X12_111 dX12_defenders_88 ?_
      refine a_iload_n dX12_defenders_91 rfl rfl ?_
      refine a_iald rfl rfl (by decide) rfl dX12_defenders_92 ⟨((h.2 c1).2 c2).1, ?_⟩
      refine a_i2l dX12_defenders_93 ?_
      refine a_lcmp dX12_defenders_94 ?_
      refine a_if_ge (tgt := 107) dX12_defenders_95 (by decide) ⟨fun c3 => ?_, fun c3 => ?_⟩
      · refine a_iload dX12_defenders_107 rfl ?_
        exact a_iret dX12_defenders_109 (((h.2 c1).2 c2).2.1 c3)
      · refine a_aload_n dX12_defenders_98 rfl rfl ?_
        refine gf_X12_125 (x := mem 12 0 1) rfl dX12_defenders_99 ?_
        refine a_bipush (k := 7) dX12_defenders_102 (by decide) (n_lit (by decide)) ?_
        refine a_icmp_ne (tgt := 110) dX12_defenders_104 (by decide) ⟨fun c4 => ?_, fun c4 => ?_⟩
        · refine a_bipush (k := 60) dX12_defenders_110 (by decide) (n_lit (by decide)) ?_
          refine a_iload_n dX12_defenders_112 rfl rfl ?_
          refine a_imul dX12_defenders_113 ?_
          refine a_lload dX12_defenders_114 rfl ?_
          refine a_l2i dX12_defenders_116 ?_
          refine a_iadd dX12_defenders_117 ?_
          refine a_istore dX12_defenders_118 (by decide) rfl ?_
          refine a_aload_n dX12_defenders_120 rfl rfl ?_
          refine gf_X12_114 dX12_defenders_121 ?_
          refine a_iload dX12_defenders_124 rfl ?_
          refine a_lald rfl rfl (by decide) rfl dX12_defenders_126 ⟨((((h.2 c1).2 c2).2.2 c3).1 c4).1, ?_⟩
          refine a_l2i dX12_defenders_127 ?_
          refine iv_X12_136 dX12_defenders_128 (Nat.le_of_ble_eq_true rfl) (MtX_mono ((((h.2 c1).2 c2).2.2 c3).1 c4).2 (fun r m5 hq => ?_))
          obtain ⟨x7, rfl, h6⟩ := hq
          refine ⟨x7, rfl, ?_⟩
          refine a_if_eq (tgt := 169) dX12_defenders_131 (by decide) ⟨fun c8 => ?_, fun c8 => ?_⟩
          · refine a_iload dX12_defenders_169 rfl ?_
            exact a_iret dX12_defenders_171 (h6.1 c8)
          · refine a_aload_n dX12_defenders_134 rfl rfl ?_
            refine gf_X12_114 dX12_defenders_135 ?_
            refine a_iload dX12_defenders_138 rfl ?_
            refine a_iconst (k := 1) dX12_defenders_140 (n_lit (by decide)) ?_
            refine a_iadd dX12_defenders_141 ?_
            refine a_lald rfl rfl (by decide) rfl dX12_defenders_142 ⟨(h6.2 c8).1, ?_⟩
            refine a_l2i dX12_defenders_143 ?_
            refine iv_X12_132 dX12_defenders_144 (Nat.le_of_ble_eq_true rfl) (MtX_mono (h6.2 c8).2 (fun r m9 hq => ?_))
            obtain ⟨x11, rfl, h10⟩ := hq
            refine ⟨x11, rfl, ?_⟩
            refine a_if_eq (tgt := 169) dX12_defenders_147 (by decide) ⟨fun c12 => ?_, fun c12 => ?_⟩
            · refine a_iload dX12_defenders_169 rfl ?_
              exact a_iret dX12_defenders_171 (h10.1 c12)
            · refine a_aload_n dX12_defenders_150 rfl rfl ?_
              refine gf_X12_114 dX12_defenders_151 ?_
              refine a_iload dX12_defenders_154 rfl ?_
              refine a_iconst (k := 2) dX12_defenders_156 (n_lit (by decide)) ?_
              refine a_iadd dX12_defenders_157 ?_
              refine a_lald rfl rfl (by decide) rfl dX12_defenders_158 ⟨(h10.2 c12).1, ?_⟩
              refine a_l2i dX12_defenders_159 ?_
              refine a_iconst (k := 0) dX12_defenders_160 (n_lit (by decide)) ?_
              refine a_bipush (k := 9) dX12_defenders_161 (by decide) (n_lit (by decide)) ?_
              refine iv_X12_128 dX12_defenders_163 (Nat.le_of_ble_eq_true rfl) (MtX_mono (h10.2 c12).2 (fun r m13 hq => ?_))
              obtain ⟨x15, rfl, h14⟩ := hq
              refine ⟨x15, rfl, ?_⟩
              refine a_if_ne (tgt := 172) dX12_defenders_166 (by decide) ⟨fun c16 => ?_, fun c16 => ?_⟩
              · refine a_aload_n dX12_defenders_172 rfl rfl ?_
                refine a_aload_n dX12_defenders_173 rfl rfl ?_
                refine gf_X12_114 dX12_defenders_174 ?_
                refine a_iload dX12_defenders_177 rfl ?_
                refine a_lald rfl rfl (by decide) rfl dX12_defenders_179 ⟨(h14.1 c16).1, ?_⟩
                refine a_l2i dX12_defenders_180 ?_
                refine a_aload_n dX12_defenders_181 rfl rfl ?_
                refine gf_X12_114 dX12_defenders_182 ?_
                refine a_iload dX12_defenders_185 rfl ?_
                refine a_iconst (k := 1) dX12_defenders_187 (n_lit (by decide)) ?_
                refine a_iadd dX12_defenders_188 ?_
                refine a_lald rfl rfl (by decide) rfl dX12_defenders_189 ⟨(h14.1 c16).2.1, ?_⟩
                refine a_l2i dX12_defenders_190 ?_
                refine a_aload_n dX12_defenders_191 rfl rfl ?_
                refine gf_X12_114 dX12_defenders_192 ?_
                refine a_iload dX12_defenders_195 rfl ?_
                refine a_iconst (k := 2) dX12_defenders_197 (n_lit (by decide)) ?_
                refine a_iadd dX12_defenders_198 ?_
                refine a_lald rfl rfl (by decide) rfl dX12_defenders_199 ⟨(h14.1 c16).2.2.1, ?_⟩
                refine a_l2i dX12_defenders_200 ?_
                refine iv_X12_139 dX12_defenders_201 (Nat.le_of_ble_eq_true rfl) (MtX_mono (h14.1 c16).2.2.2 (fun r m17 hq => ?_))
                obtain ⟨x19, rfl, h18⟩ := hq
                refine ⟨x19, rfl, ?_⟩
                refine a_pop dX12_defenders_204 rfl ?_
                refine a_iinc dX12_defenders_205 rfl (by decide) rfl ?_
                refine a_goto (tgt := 58) dX12_defenders_208 (by decide) ?_
                exact h18
              · refine a_iload dX12_defenders_169 rfl ?_
                exact a_iret dX12_defenders_171 (h14.2 c16)
        · refine a_iload dX12_defenders_107 rfl ?_
          exact a_iret dX12_defenders_109 ((((h.2 c1).2 c2).2.2 c3).2 c4)
set_option maxRecDepth 10000 in
theorem sg_X12_valueAt_0 {d : Nat} {sx : Option (List Int)} (a1 : Int) (a2 : Int) (mem : AMem) (Q : Option AV → AMem → Prop) (h : (a1 = 0 → ((0 ≤ a2 ∧ a2 < 7) ∧ (Q (some (vi (mem 1302 0 a2))) mem))) ∧ (a1 = 1 → ((0 ≤ a2 ∧ a2 < 7) ∧ (Q (some (vi (mem 1303 0 a2))) mem))) ∧ (a1 = 2 → ((0 ≤ a2 ∧ a2 < 7) ∧ (Q (some (vi (mem 1304 0 a2))) mem))) ∧ (a1 = 3 → ((0 ≤ a2 ∧ a2 < 7) ∧ (Q (some (vi (mem 1305 0 a2))) mem))) ∧ (¬ (0 ≤ a1 ∧ a1 ≤ 3) → ((0 ≤ (w32 (a1 - 4)) ∧ (w32 (a1 - 4)) < 10) ∧ (Q (some (vi (mem 1306 0 (w32 (a1 - 4))))) mem)))) : Y cX12_valueAt 3 RX12 (d + 1) sx 0 [some (vr 12 0), some (vi a1), some (vi a2)] [] mem Q := by
  refine a_iload_n dX12_valueAt_0 rfl rfl ?_
  refine a_table dX12_valueAt_1 (fun z => if z = 0 then 32 else if z = 1 then 39 else if z = 2 then 46 else if z = 3 then 53 else 0) 60 (by decide) (by decide) (by decide) ⟨fun e1a e1b => ?_, fun e2 => ?_⟩
  · rcases (by omega : a1 = 0 ∨ a1 = 1 ∨ a1 = 2 ∨ a1 = 3) with e1 | e1 | e1 | e1
    · refine Y_at (pc := 32) (by rw [e1]; rfl) ?_
      refine a_aload_n dX12_valueAt_32 rfl rfl ?_
      refine gf_X12_7 dX12_valueAt_33 ?_
      refine a_iload_n dX12_valueAt_36 rfl rfl ?_
      refine a_iald rfl rfl (by decide) rfl dX12_valueAt_37 ⟨(h.1 e1).1, ?_⟩
      exact a_iret dX12_valueAt_38 (h.1 e1).2
    · refine Y_at (pc := 39) (by rw [e1]; rfl) ?_
      refine a_aload_n dX12_valueAt_39 rfl rfl ?_
      refine gf_X12_13 dX12_valueAt_40 ?_
      refine a_iload_n dX12_valueAt_43 rfl rfl ?_
      refine a_iald rfl rfl (by decide) rfl dX12_valueAt_44 ⟨(h.2.1 e1).1, ?_⟩
      exact a_iret dX12_valueAt_45 (h.2.1 e1).2
    · refine Y_at (pc := 46) (by rw [e1]; rfl) ?_
      refine a_aload_n dX12_valueAt_46 rfl rfl ?_
      refine gf_X12_16 dX12_valueAt_47 ?_
      refine a_iload_n dX12_valueAt_50 rfl rfl ?_
      refine a_iald rfl rfl (by decide) rfl dX12_valueAt_51 ⟨(h.2.2.1 e1).1, ?_⟩
      exact a_iret dX12_valueAt_52 (h.2.2.1 e1).2
    · refine Y_at (pc := 53) (by rw [e1]; rfl) ?_
      refine a_aload_n dX12_valueAt_53 rfl rfl ?_
      refine gf_X12_19 dX12_valueAt_54 ?_
      refine a_iload_n dX12_valueAt_57 rfl rfl ?_
      refine a_iald rfl rfl (by decide) rfl dX12_valueAt_58 ⟨(h.2.2.2.1 e1).1, ?_⟩
      exact a_iret dX12_valueAt_59 (h.2.2.2.1 e1).2
  · refine a_aload_n dX12_valueAt_60 rfl rfl ?_
    refine gf_X12_22 dX12_valueAt_61 ?_
    refine a_iload_n dX12_valueAt_64 rfl rfl ?_
    refine a_iconst (k := 4) dX12_valueAt_65 (n_lit (by decide)) ?_
    refine a_isub dX12_valueAt_66 ?_
    refine a_iald rfl rfl (by decide) rfl dX12_valueAt_67 ⟨(h.2.2.2.2 e2).1, ?_⟩
    exact a_iret dX12_valueAt_68 (h.2.2.2.2 e2).2
set_option maxRecDepth 10000 in
theorem sg_X12_lays_0 {d : Nat} {sx : Option (List Int)} (a1 : Int) (a2 : Int) (a3 : Int) (mem : AMem) (Q : Option AV → AMem → Prop) (h : (a1 = 0 → ((0 ≤ a2 ∧ a2 < 7) ∧ (Q none (upM mem 1302 0 a2 a3)))) ∧ (a1 = 1 → ((0 ≤ a2 ∧ a2 < 7) ∧ (Q none (upM mem 1303 0 a2 a3)))) ∧ (a1 = 2 → ((0 ≤ a2 ∧ a2 < 7) ∧ (Q none (upM mem 1304 0 a2 a3)))) ∧ (a1 = 3 → ((0 ≤ a2 ∧ a2 < 7) ∧ (Q none (upM mem 1305 0 a2 a3)))) ∧ (¬ (0 ≤ a1 ∧ a1 ≤ 3) → ((0 ≤ (w32 (a1 - 4)) ∧ (w32 (a1 - 4)) < 10) ∧ (Q none (upM mem 1306 0 (w32 (a1 - 4)) a3))))) : Y cX12_lays 4 RX12 (d + 1) sx 0 [some (vr 12 0), some (vi a1), some (vi a2), some (vi a3)] [] mem Q := by
  refine a_iload_n dX12_lays_0 rfl rfl ?_
  refine a_table dX12_lays_1 (fun z => if z = 0 then 32 else if z = 1 then 42 else if z = 2 then 52 else if z = 3 then 62 else 0) 72 (by decide) (by decide) (by decide) ⟨fun e1a e1b => ?_, fun e2 => ?_⟩
  · rcases (by omega : a1 = 0 ∨ a1 = 1 ∨ a1 = 2 ∨ a1 = 3) with e1 | e1 | e1 | e1
    · refine Y_at (pc := 32) (by rw [e1]; rfl) ?_
      refine a_aload_n dX12_lays_32 rfl rfl ?_
      refine gf_X12_7 dX12_lays_33 ?_
      refine a_iload_n dX12_lays_36 rfl rfl ?_
      refine a_iload_n dX12_lays_37 rfl rfl ?_
      refine a_iast rfl rfl (by decide) rfl dX12_lays_38 ⟨(h.1 e1).1, ?_⟩
      refine a_goto (tgt := 81) dX12_lays_39 (by decide) ?_
      exact a_vret dX12_lays_81 (h.1 e1).2
    · refine Y_at (pc := 42) (by rw [e1]; rfl) ?_
      refine a_aload_n dX12_lays_42 rfl rfl ?_
      refine gf_X12_13 dX12_lays_43 ?_
      refine a_iload_n dX12_lays_46 rfl rfl ?_
      refine a_iload_n dX12_lays_47 rfl rfl ?_
      refine a_iast rfl rfl (by decide) rfl dX12_lays_48 ⟨(h.2.1 e1).1, ?_⟩
      refine a_goto (tgt := 81) dX12_lays_49 (by decide) ?_
      exact a_vret dX12_lays_81 (h.2.1 e1).2
    · refine Y_at (pc := 52) (by rw [e1]; rfl) ?_
      refine a_aload_n dX12_lays_52 rfl rfl ?_
      refine gf_X12_16 dX12_lays_53 ?_
      refine a_iload_n dX12_lays_56 rfl rfl ?_
      refine a_iload_n dX12_lays_57 rfl rfl ?_
      refine a_iast rfl rfl (by decide) rfl dX12_lays_58 ⟨(h.2.2.1 e1).1, ?_⟩
      refine a_goto (tgt := 81) dX12_lays_59 (by decide) ?_
      exact a_vret dX12_lays_81 (h.2.2.1 e1).2
    · refine Y_at (pc := 62) (by rw [e1]; rfl) ?_
      refine a_aload_n dX12_lays_62 rfl rfl ?_
      refine gf_X12_19 dX12_lays_63 ?_
      refine a_iload_n dX12_lays_66 rfl rfl ?_
      refine a_iload_n dX12_lays_67 rfl rfl ?_
      refine a_iast rfl rfl (by decide) rfl dX12_lays_68 ⟨(h.2.2.2.1 e1).1, ?_⟩
      refine a_goto (tgt := 81) dX12_lays_69 (by decide) ?_
      exact a_vret dX12_lays_81 (h.2.2.2.1 e1).2
  · refine a_aload_n dX12_lays_72 rfl rfl ?_
    refine gf_X12_22 dX12_lays_73 ?_
    refine a_iload_n dX12_lays_76 rfl rfl ?_
    refine a_iconst (k := 4) dX12_lays_77 (n_lit (by decide)) ?_
    refine a_isub dX12_lays_78 ?_
    refine a_iload_n dX12_lays_79 rfl rfl ?_
    refine a_iast rfl rfl (by decide) rfl dX12_lays_80 ⟨(h.2.2.2.2 e2).1, ?_⟩
    exact a_vret dX12_lays_81 (h.2.2.2.2 e2).2
set_option maxRecDepth 10000 in
theorem sg_X12_changes_0 {d : Nat} {sx : Option (List Int)} (a1 : Int) (a2 : Int) (a3 : Int) (mem : AMem) (Q : Option AV → AMem → Prop) (h : MtX yX12_valueAt cX12_valueAt 3 (some .int) d [vr 12 0, vi a1, vi a2] mem (fun r m1 => ∃ x3 : Int, r = some (vi x3) ∧ ((x3 ≠ a3 → (((m1 12 0 7) ≠ (40 : Int) → (Y cX12_changes 6 RX12 (d + 1) sx 121 [some (vr 12 0), some (vi a1), some (vi a2), some (vi a3), some (vi x3), none] [] (upM m1 12 0 8 0) Q)) ∧ ((m1 12 0 7) = (40 : Int) → (Y cX12_changes 6 RX12 (d + 1) sx 34 [some (vr 12 0), some (vi a1), some (vi a2), some (vi a3), some (vi x3), some (vi 1)] [] (upM m1 12 0 8 0) Q)))) ∧ (x3 = a3 → (Q (some (vi x3)) m1))))) : Y cX12_changes 6 RX12 (d + 1) sx 0 [some (vr 12 0), some (vi a1), some (vi a2), some (vi a3), none, none] [] mem Q := by
  refine a_aload_n dX12_changes_0 rfl rfl ?_
  refine a_iload_n dX12_changes_1 rfl rfl ?_
  refine a_iload_n dX12_changes_2 rfl rfl ?_
  refine iv_X12_148 dX12_changes_3 (Nat.le_of_ble_eq_true rfl) (MtX_mono h (fun r m1 hq => ?_))
  obtain ⟨x3, rfl, h2⟩ := hq
  refine ⟨x3, rfl, ?_⟩
  refine a_istore dX12_changes_6 (by decide) rfl ?_
  refine a_iload dX12_changes_8 rfl ?_
  refine a_iload_n dX12_changes_10 rfl rfl ?_
  refine a_icmp_ne (tgt := 17) dX12_changes_11 (by decide) ⟨fun c4 => ?_, fun c4 => ?_⟩
  · refine a_aload_n dX12_changes_17 rfl rfl ?_
    refine a_iconst (k := 0) dX12_changes_18 (n_lit (by decide)) ?_
    refine pf_X12_152 dX12_changes_19 ?_
    refine a_aload_n dX12_changes_22 rfl rfl ?_
    refine gf_X12_155 (x := m1 12 0 7) rfl dX12_changes_23 ?_
    refine a_bipush (k := 40) dX12_changes_26 (by decide) (n_lit (by decide)) ?_
    refine a_icmp_ne (tgt := 121) dX12_changes_28 (by decide) ⟨fun c5 => ?_, fun c5 => ?_⟩
    · exact ((h2.1 c4).1 c5)
    · refine a_iconst (k := 1) dX12_changes_31 (n_lit (by decide)) ?_
      refine a_istore dX12_changes_32 (by decide) rfl ?_
      exact ((h2.1 c4).2 c5)
  · refine a_iload dX12_changes_14 rfl ?_
    exact a_iret dX12_changes_16 (h2.2 c4)
set_option maxRecDepth 10000 in
theorem sg_X12_changes_34 {d : Nat} {sx : Option (List Int)} (a1 : Int) (a2 : Int) (a3 : Int) (a4 : Int) (a5 : Int) (mem : AMem) (Q : Option AV → AMem → Prop) (h : ((40 : Int) ≤ a5 → (Y cX12_changes 6 RX12 (d + 1) sx 121 [some (vr 12 0), some (vi a1), some (vi a2), some (vi a3), some (vi a4), some (vi a5)] [] (upM mem 12 0 7 (w32 ((mem 12 0 7) - 1))) Q)) ∧ (¬ (40 : Int) ≤ a5 → ((0 ≤ a5 ∧ a5 < 40) ∧ ((0 ≤ (w32 (a5 - 1)) ∧ (w32 (a5 - 1)) < 40) ∧ ((0 ≤ a5 ∧ a5 < 40) ∧ ((0 ≤ (w32 (a5 - 1)) ∧ (w32 (a5 - 1)) < 40) ∧ ((0 ≤ a5 ∧ a5 < 40) ∧ ((0 ≤ (w32 (a5 - 1)) ∧ (w32 (a5 - 1)) < 40) ∧ ((0 ≤ a5 ∧ a5 < 40) ∧ ((0 ≤ (w32 (a5 - 1)) ∧ (w32 (a5 - 1)) < 40) ∧ (Y cX12_changes 6 RX12 (d + 1) sx 34 [some (vr 12 0), some (vi a1), some (vi a2), some (vi a3), some (vi a4), some (vi (w32 (a5 + 1)))] [] (upM (upM (upM (upM mem 1309 0 (w32 (a5 - 1)) (mem 1309 0 a5)) 1310 0 (w32 (a5 - 1)) (mem 1310 0 a5)) 1311 0 (w32 (a5 - 1)) (mem 1311 0 a5)) 1312 0 (w32 (a5 - 1)) (mem 1312 0 a5)) Q))))))))))) : Y cX12_changes 6 RX12 (d + 1) sx 34 [some (vr 12 0), some (vi a1), some (vi a2), some (vi a3), some (vi a4), some (vi a5)] [] mem Q := by
  refine a_iload dX12_changes_34 rfl ?_
  refine a_bipush (k := 40) dX12_changes_36 (by decide) (n_lit (by decide)) ?_
  refine a_icmp_ge (tgt := 111) dX12_changes_38 (by decide) ⟨fun c1 => ?_, fun c1 => ?_⟩
  · refine a_aload_n dX12_changes_111 rfl rfl ?_
    refine a_dup dX12_changes_112 rfl ?_
    refine gf_X12_155 (x := mem 12 0 7) rfl dX12_changes_113 ?_
    refine a_iconst (k := 1) dX12_changes_116 (n_lit (by decide)) ?_
    refine a_isub dX12_changes_117 ?_
    refine pf_X12_155 dX12_changes_118 ?_
    exact (h.1 c1)
  · refine a_aload_n dX12_changes_41 rfl rfl ?_
    refine gf_X12_25 dX12_changes_42 ?_
    refine a_iload dX12_changes_45 rfl ?_
    refine a_iconst (k := 1) dX12_changes_47 (n_lit (by decide)) ?_
    refine a_isub dX12_changes_48 ?_
    refine a_aload_n dX12_changes_49 rfl rfl ?_
    refine gf_X12_25 dX12_changes_50 ?_
    refine a_iload dX12_changes_53 rfl ?_
    refine a_iald rfl rfl (by decide) rfl dX12_changes_55 ⟨(h.2 c1).1, ?_⟩
    refine a_iast rfl rfl (by decide) rfl dX12_changes_56 ⟨(h.2 c1).2.1, ?_⟩
    refine a_aload_n dX12_changes_57 rfl rfl ?_
    refine gf_X12_28 dX12_changes_58 ?_
    refine a_iload dX12_changes_61 rfl ?_
    refine a_iconst (k := 1) dX12_changes_63 (n_lit (by decide)) ?_
    refine a_isub dX12_changes_64 ?_
    refine a_aload_n dX12_changes_65 rfl rfl ?_
    refine gf_X12_28 dX12_changes_66 ?_
    refine a_iload dX12_changes_69 rfl ?_
    refine a_iald rfl rfl (by decide) rfl dX12_changes_71 ⟨(h.2 c1).2.2.1, ?_⟩
    refine a_iast rfl rfl (by decide) rfl dX12_changes_72 ⟨(h.2 c1).2.2.2.1, ?_⟩
    refine a_aload_n dX12_changes_73 rfl rfl ?_
    refine gf_X12_31 dX12_changes_74 ?_
    refine a_iload dX12_changes_77 rfl ?_
    refine a_iconst (k := 1) dX12_changes_79 (n_lit (by decide)) ?_
    refine a_isub dX12_changes_80 ?_
    refine a_aload_n dX12_changes_81 rfl rfl ?_
    refine gf_X12_31 dX12_changes_82 ?_
    refine a_iload dX12_changes_85 rfl ?_
    refine a_iald rfl rfl (by decide) rfl dX12_changes_87 ⟨(h.2 c1).2.2.2.2.1, ?_⟩
    refine a_iast rfl rfl (by decide) rfl dX12_changes_88 ⟨(h.2 c1).2.2.2.2.2.1, ?_⟩
    refine a_aload_n dX12_changes_89 rfl rfl ?_
    refine gf_X12_34 dX12_changes_90 ?_
    refine a_iload dX12_changes_93 rfl ?_
    refine a_iconst (k := 1) dX12_changes_95 (n_lit (by decide)) ?_
    refine a_isub dX12_changes_96 ?_
    refine a_aload_n dX12_changes_97 rfl rfl ?_
    refine gf_X12_34 dX12_changes_98 ?_
    refine a_iload dX12_changes_101 rfl ?_
    refine a_iald rfl rfl (by decide) rfl dX12_changes_103 ⟨(h.2 c1).2.2.2.2.2.2.1, ?_⟩
    refine a_iast rfl rfl (by decide) rfl dX12_changes_104 ⟨(h.2 c1).2.2.2.2.2.2.2.1, ?_⟩
    refine a_iinc dX12_changes_105 rfl (by decide) rfl ?_
    refine a_goto (tgt := 34) dX12_changes_108 (by decide) ?_
    exact (h.2 c1).2.2.2.2.2.2.2.2
set_option maxRecDepth 10000 in
theorem sg_X12_changes_121 {d : Nat} {sx : Option (List Int)} (a1 : Int) (a2 : Int) (a3 : Int) (a4 : Int) (mem : AMem) (Q : Option AV → AMem → Prop) (h : (0 ≤ (mem 12 0 7) ∧ (mem 12 0 7) < 40) ∧ ((0 ≤ (mem 12 0 7) ∧ (mem 12 0 7) < 40) ∧ ((0 ≤ (mem 12 0 7) ∧ (mem 12 0 7) < 40) ∧ ((0 ≤ (mem 12 0 7) ∧ (mem 12 0 7) < 40) ∧ (MtX yX12_lays cX12_lays 4 none d [vr 12 0, vi a1, vi a2, vi a3] (upM (upM (upM (upM (upM mem 1309 0 (mem 12 0 7) a1) 1310 0 (mem 12 0 7) a2) 1311 0 (mem 12 0 7) a4) 1312 0 (mem 12 0 7) a3) 12 0 7 (w32 ((mem 12 0 7) + 1))) (fun r m1 => r = none ∧ (Q (some (vi a4)) m1))))))) : Y cX12_changes 6 RX12 (d + 1) sx 121 [some (vr 12 0), some (vi a1), some (vi a2), some (vi a3), some (vi a4), none] [] mem Q := by
  refine a_aload_n dX12_changes_121 rfl rfl ?_
  refine gf_X12_25 dX12_changes_122 ?_
  refine a_aload_n dX12_changes_125 rfl rfl ?_
  refine gf_X12_155 (x := mem 12 0 7) rfl dX12_changes_126 ?_
  refine a_iload_n dX12_changes_129 rfl rfl ?_
  refine a_iast rfl rfl (by decide) rfl dX12_changes_130 ⟨h.1, ?_⟩
  refine a_aload_n dX12_changes_131 rfl rfl ?_
  refine gf_X12_28 dX12_changes_132 ?_
  refine a_aload_n dX12_changes_135 rfl rfl ?_
  refine gf_X12_155 (x := mem 12 0 7) rfl dX12_changes_136 ?_
  refine a_iload_n dX12_changes_139 rfl rfl ?_
  refine a_iast rfl rfl (by decide) rfl dX12_changes_140 ⟨h.2.1, ?_⟩
  refine a_aload_n dX12_changes_141 rfl rfl ?_
  refine gf_X12_31 dX12_changes_142 ?_
  refine a_aload_n dX12_changes_145 rfl rfl ?_
  refine gf_X12_155 (x := mem 12 0 7) rfl dX12_changes_146 ?_
  refine a_iload dX12_changes_149 rfl ?_
  refine a_iast rfl rfl (by decide) rfl dX12_changes_151 ⟨h.2.2.1, ?_⟩
  refine a_aload_n dX12_changes_152 rfl rfl ?_
  refine gf_X12_34 dX12_changes_153 ?_
  refine a_aload_n dX12_changes_156 rfl rfl ?_
  refine gf_X12_155 (x := mem 12 0 7) rfl dX12_changes_157 ?_
  refine a_iload_n dX12_changes_160 rfl rfl ?_
  refine a_iast rfl rfl (by decide) rfl dX12_changes_161 ⟨h.2.2.2.1, ?_⟩
  refine a_aload_n dX12_changes_162 rfl rfl ?_
  refine a_dup dX12_changes_163 rfl ?_
  refine gf_X12_155 (x := mem 12 0 7) rfl dX12_changes_164 ?_
  refine a_iconst (k := 1) dX12_changes_167 (n_lit (by decide)) ?_
  refine a_iadd dX12_changes_168 ?_
  refine pf_X12_155 dX12_changes_169 ?_
  refine a_aload_n dX12_changes_172 rfl rfl ?_
  refine a_iload_n dX12_changes_173 rfl rfl ?_
  refine a_iload_n dX12_changes_174 rfl rfl ?_
  refine a_iload_n dX12_changes_175 rfl rfl ?_
  refine iv_X12_158 dX12_changes_176 (Nat.le_of_ble_eq_true rfl) (MtX_mono h.2.2.2.2 (fun r m1 hq => ?_))
  obtain ⟨rfl, h2⟩ := hq
  refine ⟨rfl, ?_⟩
  refine a_iload dX12_changes_179 rfl ?_
  exact a_iret dX12_changes_181 h2
set_option maxRecDepth 10000 in
theorem sg_X12_undo_0 {d : Nat} {sx : Option (List Int)}  (mem : AMem) (Q : Option AV → AMem → Prop) (h : ((mem 12 0 7) ≠ (0 : Int) → ((0 ≤ (w32 ((mem 12 0 7) - 1)) ∧ (w32 ((mem 12 0 7) - 1)) < 40) ∧ ((0 ≤ (w32 ((mem 12 0 7) - 1)) ∧ (w32 ((mem 12 0 7) - 1)) < 40) ∧ ((0 ≤ (w32 ((mem 12 0 7) - 1)) ∧ (w32 ((mem 12 0 7) - 1)) < 40) ∧ (MtX yX12_lays cX12_lays 4 none d [vr 12 0, vi (mem 1309 0 (w32 ((mem 12 0 7) - 1))), vi (mem 1310 0 (w32 ((mem 12 0 7) - 1))), vi (mem 1311 0 (w32 ((mem 12 0 7) - 1)))] (upM (upM mem 12 0 7 (w32 ((mem 12 0 7) - 1))) 12 0 8 (w32 ((mem 12 0 8) + 1))) (fun r m2 => r = none ∧ (Q (some (vi (m2 12 0 7))) m2))))))) ∧ ((mem 12 0 7) = (0 : Int) → (Q (some (vi (-5))) mem))) : Y cX12_undo 1 RX12 (d + 1) sx 0 [some (vr 12 0)] [] mem Q := by
  refine a_aload_n dX12_undo_0 rfl rfl ?_
  refine gf_X12_155 (x := mem 12 0 7) rfl dX12_undo_1 ?_
  refine a_if_ne (tgt := 10) dX12_undo_4 (by decide) ⟨fun c1 => ?_, fun c1 => ?_⟩
  · refine a_aload_n dX12_undo_10 rfl rfl ?_
    refine a_dup dX12_undo_11 rfl ?_
    refine gf_X12_155 (x := mem 12 0 7) rfl dX12_undo_12 ?_
    refine a_iconst (k := 1) dX12_undo_15 (n_lit (by decide)) ?_
    refine a_isub dX12_undo_16 ?_
    refine pf_X12_155 dX12_undo_17 ?_
    refine a_aload_n dX12_undo_20 rfl rfl ?_
    refine a_dup dX12_undo_21 rfl ?_
    refine gf_X12_152 (x := mem 12 0 8) rfl dX12_undo_22 ?_
    refine a_iconst (k := 1) dX12_undo_25 (n_lit (by decide)) ?_
    refine a_iadd dX12_undo_26 ?_
    refine pf_X12_152 dX12_undo_27 ?_
    refine a_aload_n dX12_undo_30 rfl rfl ?_
    refine a_aload_n dX12_undo_31 rfl rfl ?_
    refine gf_X12_25 dX12_undo_32 ?_
    refine a_aload_n dX12_undo_35 rfl rfl ?_
    refine gf_X12_155 (x := w32 ((mem 12 0 7) - 1)) rfl dX12_undo_36 ?_
    refine a_iald rfl rfl (by decide) rfl dX12_undo_39 ⟨(h.1 c1).1, ?_⟩
    refine a_aload_n dX12_undo_40 rfl rfl ?_
    refine gf_X12_28 dX12_undo_41 ?_
    refine a_aload_n dX12_undo_44 rfl rfl ?_
    refine gf_X12_155 (x := w32 ((mem 12 0 7) - 1)) rfl dX12_undo_45 ?_
    refine a_iald rfl rfl (by decide) rfl dX12_undo_48 ⟨(h.1 c1).2.1, ?_⟩
    refine a_aload_n dX12_undo_49 rfl rfl ?_
    refine gf_X12_31 dX12_undo_50 ?_
    refine a_aload_n dX12_undo_53 rfl rfl ?_
    refine gf_X12_155 (x := w32 ((mem 12 0 7) - 1)) rfl dX12_undo_54 ?_
    refine a_iald rfl rfl (by decide) rfl dX12_undo_57 ⟨(h.1 c1).2.2.1, ?_⟩
    refine iv_X12_158 dX12_undo_58 (Nat.le_of_ble_eq_true rfl) (MtX_mono (h.1 c1).2.2.2 (fun r m2 hq => ?_))
    obtain ⟨rfl, h3⟩ := hq
    refine ⟨rfl, ?_⟩
    refine a_aload_n dX12_undo_61 rfl rfl ?_
    refine gf_X12_155 (x := m2 12 0 7) rfl dX12_undo_62 ?_
    exact a_iret dX12_undo_65 h3
  · refine a_bipush (k := (-5)) dX12_undo_7 (by decide) (n_lit (by decide)) ?_
    exact a_iret dX12_undo_9 (h.2 c1)
set_option maxRecDepth 10000 in
theorem sg_X12_redo_0 {d : Nat} {sx : Option (List Int)}  (mem : AMem) (Q : Option AV → AMem → Prop) (h : ((mem 12 0 8) ≠ (0 : Int) → ((0 ≤ (mem 12 0 7) ∧ (mem 12 0 7) < 40) ∧ ((0 ≤ (mem 12 0 7) ∧ (mem 12 0 7) < 40) ∧ ((0 ≤ (mem 12 0 7) ∧ (mem 12 0 7) < 40) ∧ (MtX yX12_lays cX12_lays 4 none d [vr 12 0, vi (mem 1309 0 (mem 12 0 7)), vi (mem 1310 0 (mem 12 0 7)), vi (mem 1312 0 (mem 12 0 7))] mem (fun r m2 => r = none ∧ (Q (some (vi (w32 ((m2 12 0 8) - 1)))) (upM (upM m2 12 0 7 (w32 ((m2 12 0 7) + 1))) 12 0 8 (w32 ((m2 12 0 8) - 1)))))))))) ∧ ((mem 12 0 8) = (0 : Int) → (Q (some (vi (-5))) mem))) : Y cX12_redo 1 RX12 (d + 1) sx 0 [some (vr 12 0)] [] mem Q := by
  refine a_aload_n dX12_redo_0 rfl rfl ?_
  refine gf_X12_152 (x := mem 12 0 8) rfl dX12_redo_1 ?_
  refine a_if_ne (tgt := 10) dX12_redo_4 (by decide) ⟨fun c1 => ?_, fun c1 => ?_⟩
  · refine a_aload_n dX12_redo_10 rfl rfl ?_
    refine a_aload_n dX12_redo_11 rfl rfl ?_
    refine gf_X12_25 dX12_redo_12 ?_
    refine a_aload_n dX12_redo_15 rfl rfl ?_
    refine gf_X12_155 (x := mem 12 0 7) rfl dX12_redo_16 ?_
    refine a_iald rfl rfl (by decide) rfl dX12_redo_19 ⟨(h.1 c1).1, ?_⟩
    refine a_aload_n dX12_redo_20 rfl rfl ?_
    refine gf_X12_28 dX12_redo_21 ?_
    refine a_aload_n dX12_redo_24 rfl rfl ?_
    refine gf_X12_155 (x := mem 12 0 7) rfl dX12_redo_25 ?_
    refine a_iald rfl rfl (by decide) rfl dX12_redo_28 ⟨(h.1 c1).2.1, ?_⟩
    refine a_aload_n dX12_redo_29 rfl rfl ?_
    refine gf_X12_34 dX12_redo_30 ?_
    refine a_aload_n dX12_redo_33 rfl rfl ?_
    refine gf_X12_155 (x := mem 12 0 7) rfl dX12_redo_34 ?_
    refine a_iald rfl rfl (by decide) rfl dX12_redo_37 ⟨(h.1 c1).2.2.1, ?_⟩
    refine iv_X12_158 dX12_redo_38 (Nat.le_of_ble_eq_true rfl) (MtX_mono (h.1 c1).2.2.2 (fun r m2 hq => ?_))
    obtain ⟨rfl, h3⟩ := hq
    refine ⟨rfl, ?_⟩
    refine a_aload_n dX12_redo_41 rfl rfl ?_
    refine a_dup dX12_redo_42 rfl ?_
    refine gf_X12_155 (x := m2 12 0 7) rfl dX12_redo_43 ?_
    refine a_iconst (k := 1) dX12_redo_46 (n_lit (by decide)) ?_
    refine a_iadd dX12_redo_47 ?_
    refine pf_X12_155 dX12_redo_48 ?_
    refine a_aload_n dX12_redo_51 rfl rfl ?_
    refine a_dup dX12_redo_52 rfl ?_
    refine gf_X12_152 (x := m2 12 0 8) rfl dX12_redo_53 ?_
    refine a_iconst (k := 1) dX12_redo_56 (n_lit (by decide)) ?_
    refine a_isub dX12_redo_57 ?_
    refine pf_X12_152 dX12_redo_58 ?_
    refine a_aload_n dX12_redo_61 rfl rfl ?_
    refine gf_X12_152 (x := w32 ((m2 12 0 8) - 1)) rfl dX12_redo_62 ?_
    exact a_iret dX12_redo_65 h3
  · refine a_bipush (k := (-5)) dX12_redo_7 (by decide) (n_lit (by decide)) ?_
    exact a_iret dX12_redo_9 (h.2 c1)
set_option maxRecDepth 10000 in
theorem sg_X12_isOne_0 {d : Nat} {sx : Option (List Int)} (a1 : Int) (a2 : Int) (mem : AMem) (Q : Option AV → AMem → Prop) (h : MtX yX12_in cX12_in 3 (some .boolean) d [vi a2, vi 0, vi 3] mem (fun r m1 => ∃ x3 : Int, r = some (vi x3) ∧ ((x3 = (0 : Int) → (MtX yX12_in cX12_in 3 (some .boolean) d [vi a2, vi 4, vi 13] m1 (fun r m5 => ∃ x7 : Int, r = some (vi x7) ∧ ((x7 = (0 : Int) → (Q (some (vi 0)) m5)) ∧ (¬ x7 = (0 : Int) → ((a1 ≠ (0 : Int) → (Q (some (vi 0)) m5)) ∧ (a1 = (0 : Int) → (Q (some (vi 1)) m5)))))))) ∧ (¬ x3 = (0 : Int) → (MtX yX12_isDefender cX12_isDefender 2 (some .boolean) d [vr 12 0, vi a1] m1 (fun r m10 => ∃ x12 : Int, r = some (vi x12) ∧ (Q (some (vi x12)) m10))))))) : Y cX12_isOne 3 RX12 (d + 1) sx 0 [some (vr 12 0), some (vi a1), some (vi a2)] [] mem Q := by
  refine a_iload_n dX12_isOne_0 rfl rfl ?_
  refine a_iconst (k := 0) dX12_isOne_1 (n_lit (by decide)) ?_
  refine a_iconst (k := 3) dX12_isOne_2 (n_lit (by decide)) ?_
  refine iv_X12_128 dX12_isOne_3 (Nat.le_of_ble_eq_true rfl) (MtX_mono h (fun r m1 hq => ?_))
  obtain ⟨x3, rfl, h2⟩ := hq
  refine ⟨x3, rfl, ?_⟩
  refine a_if_eq (tgt := 17) dX12_isOne_6 (by decide) ⟨fun c4 => ?_, fun c4 => ?_⟩
  · refine a_iload_n dX12_isOne_17 rfl rfl ?_
    refine a_iconst (k := 4) dX12_isOne_18 (n_lit (by decide)) ?_
    refine a_bipush (k := 13) dX12_isOne_19 (by decide) (n_lit (by decide)) ?_
    refine iv_X12_128 dX12_isOne_21 (Nat.le_of_ble_eq_true rfl) (MtX_mono (h2.1 c4) (fun r m5 hq => ?_))
    obtain ⟨x7, rfl, h6⟩ := hq
    refine ⟨x7, rfl, ?_⟩
    refine a_if_eq (tgt := 35) dX12_isOne_24 (by decide) ⟨fun c8 => ?_, fun c8 => ?_⟩
    · refine a_iconst (k := 0) dX12_isOne_35 (n_lit (by decide)) ?_
      exact a_iret dX12_isOne_36 (h6.1 c8)
    · refine a_iload_n dX12_isOne_27 rfl rfl ?_
      refine a_if_ne (tgt := 35) dX12_isOne_28 (by decide) ⟨fun c9 => ?_, fun c9 => ?_⟩
      · refine a_iconst (k := 0) dX12_isOne_35 (n_lit (by decide)) ?_
        exact a_iret dX12_isOne_36 ((h6.2 c8).1 c9)
      · refine a_iconst (k := 1) dX12_isOne_31 (n_lit (by decide)) ?_
        refine a_goto (tgt := 36) dX12_isOne_32 (by decide) ?_
        exact a_iret dX12_isOne_36 ((h6.2 c8).2 c9)
  · refine a_aload_n dX12_isOne_9 rfl rfl ?_
    refine a_iload_n dX12_isOne_10 rfl rfl ?_
    refine iv_X12_162 dX12_isOne_11 (Nat.le_of_ble_eq_true rfl) (MtX_mono (h2.2 c4) (fun r m10 hq => ?_))
    obtain ⟨x12, rfl, h11⟩ := hq
    refine ⟨x12, rfl, ?_⟩
    refine a_goto (tgt := 36) dX12_isOne_14 (by decide) ?_
    exact a_iret dX12_isOne_36 h11
set_option maxRecDepth 10000 in
theorem sg_X12_mayHave_0 {d : Nat} {sx : Option (List Int)} (a0 : Int) (a1 : Int) (mem : AMem) (Q : Option AV → AMem → Prop) (h : (a0 = 0 → (MtX yX12_isColumn cX12_isColumn 1 (some .boolean) d [vi a1] mem (fun r m2 => ∃ x4 : Int, r = some (vi x4) ∧ (Q (some (vi x4)) m2)))) ∧ (a0 = 1 → (MtX yX12_isRow cX12_isRow 1 (some .boolean) d [vi a1] mem (fun r m5 => ∃ x7 : Int, r = some (vi x7) ∧ (Q (some (vi x7)) m5)))) ∧ (a0 = 2 → (MtX yX12_in cX12_in 3 (some .boolean) d [vi a1, vi 0, vi 9] mem (fun r m8 => ∃ x10 : Int, r = some (vi x10) ∧ (Q (some (vi x10)) m8)))) ∧ (a0 = 3 → (MtX yX12_in cX12_in 3 (some .boolean) d [vi a1, vi 0, vi 1] mem (fun r m11 => ∃ x13 : Int, r = some (vi x13) ∧ (Q (some (vi x13)) m11)))) ∧ (a0 = 4 → (MtX yX12_in cX12_in 3 (some .boolean) d [vi a1, vi 1, vi 60] mem (fun r m14 => ∃ x16 : Int, r = some (vi x16) ∧ (Q (some (vi x16)) m14)))) ∧ (a0 = 5 → (MtX yX12_in cX12_in 3 (some .boolean) d [vi a1, vi 0, vi 3] mem (fun r m17 => ∃ x19 : Int, r = some (vi x19) ∧ (Q (some (vi x19)) m17)))) ∧ (a0 = 6 → (MtX yX12_in cX12_in 3 (some .boolean) d [vi a1, vi 0, vi 40] mem (fun r m20 => ∃ x22 : Int, r = some (vi x22) ∧ (Q (some (vi x22)) m20)))) ∧ (a0 = 7 → (MtX yX12_isColumn cX12_isColumn 1 (some .boolean) d [vi a1] mem (fun r m23 => ∃ x25 : Int, r = some (vi x25) ∧ (Q (some (vi x25)) m23)))) ∧ (a0 = 8 → (MtX yX12_isRow cX12_isRow 1 (some .boolean) d [vi a1] mem (fun r m26 => ∃ x28 : Int, r = some (vi x28) ∧ (Q (some (vi x28)) m26)))) ∧ (¬ (0 ≤ a0 ∧ a0 ≤ 8) → (MtX yX12_in cX12_in 3 (some .boolean) d [vi a1, vi 0, vi 12] mem (fun r m30 => ∃ x32 : Int, r = some (vi x32) ∧ (Q (some (vi x32)) m30))))) : Y cX12_mayHave 2 RX12 (d + 1) sx 0 [some (vi a0), some (vi a1)] [] mem Q := by
  refine a_iload_n dX12_mayHave_0 rfl rfl ?_
  refine a_table dX12_mayHave_1 (fun z => if z = 0 then 52 else if z = 1 then 57 else if z = 2 then 62 else if z = 3 then 70 else if z = 4 then 77 else if z = 5 then 85 else if z = 6 then 92 else if z = 7 then 100 else if z = 8 then 105 else 0) 110 (by decide) (by decide) (by decide) ⟨fun e1a e1b => ?_, fun e29 => ?_⟩
  · rcases (by omega : a0 = 0 ∨ a0 = 1 ∨ a0 = 2 ∨ a0 = 3 ∨ a0 = 4 ∨ a0 = 5 ∨ a0 = 6 ∨ a0 = 7 ∨ a0 = 8) with e1 | e1 | e1 | e1 | e1 | e1 | e1 | e1 | e1
    · refine Y_at (pc := 52) (by rw [e1]; rfl) ?_
      refine a_iload_n dX12_mayHave_52 rfl rfl ?_
      refine iv_X12_136 dX12_mayHave_53 (Nat.le_of_ble_eq_true rfl) (MtX_mono (h.1 e1) (fun r m2 hq => ?_))
      obtain ⟨x4, rfl, h3⟩ := hq
      refine ⟨x4, rfl, ?_⟩
      exact a_iret dX12_mayHave_56 h3
    · refine Y_at (pc := 57) (by rw [e1]; rfl) ?_
      refine a_iload_n dX12_mayHave_57 rfl rfl ?_
      refine iv_X12_132 dX12_mayHave_58 (Nat.le_of_ble_eq_true rfl) (MtX_mono (h.2.1 e1) (fun r m5 hq => ?_))
      obtain ⟨x7, rfl, h6⟩ := hq
      refine ⟨x7, rfl, ?_⟩
      exact a_iret dX12_mayHave_61 h6
    · refine Y_at (pc := 62) (by rw [e1]; rfl) ?_
      refine a_iload_n dX12_mayHave_62 rfl rfl ?_
      refine a_iconst (k := 0) dX12_mayHave_63 (n_lit (by decide)) ?_
      refine a_bipush (k := 9) dX12_mayHave_64 (by decide) (n_lit (by decide)) ?_
      refine iv_X12_128 dX12_mayHave_66 (Nat.le_of_ble_eq_true rfl) (MtX_mono (h.2.2.1 e1) (fun r m8 hq => ?_))
      obtain ⟨x10, rfl, h9⟩ := hq
      refine ⟨x10, rfl, ?_⟩
      exact a_iret dX12_mayHave_69 h9
    · refine Y_at (pc := 70) (by rw [e1]; rfl) ?_
      refine a_iload_n dX12_mayHave_70 rfl rfl ?_
      refine a_iconst (k := 0) dX12_mayHave_71 (n_lit (by decide)) ?_
      refine a_iconst (k := 1) dX12_mayHave_72 (n_lit (by decide)) ?_
      refine iv_X12_128 dX12_mayHave_73 (Nat.le_of_ble_eq_true rfl) (MtX_mono (h.2.2.2.1 e1) (fun r m11 hq => ?_))
      obtain ⟨x13, rfl, h12⟩ := hq
      refine ⟨x13, rfl, ?_⟩
      exact a_iret dX12_mayHave_76 h12
    · refine Y_at (pc := 77) (by rw [e1]; rfl) ?_
      refine a_iload_n dX12_mayHave_77 rfl rfl ?_
      refine a_iconst (k := 1) dX12_mayHave_78 (n_lit (by decide)) ?_
      refine a_bipush (k := 60) dX12_mayHave_79 (by decide) (n_lit (by decide)) ?_
      refine iv_X12_128 dX12_mayHave_81 (Nat.le_of_ble_eq_true rfl) (MtX_mono (h.2.2.2.2.1 e1) (fun r m14 hq => ?_))
      obtain ⟨x16, rfl, h15⟩ := hq
      refine ⟨x16, rfl, ?_⟩
      exact a_iret dX12_mayHave_84 h15
    · refine Y_at (pc := 85) (by rw [e1]; rfl) ?_
      refine a_iload_n dX12_mayHave_85 rfl rfl ?_
      refine a_iconst (k := 0) dX12_mayHave_86 (n_lit (by decide)) ?_
      refine a_iconst (k := 3) dX12_mayHave_87 (n_lit (by decide)) ?_
      refine iv_X12_128 dX12_mayHave_88 (Nat.le_of_ble_eq_true rfl) (MtX_mono (h.2.2.2.2.2.1 e1) (fun r m17 hq => ?_))
      obtain ⟨x19, rfl, h18⟩ := hq
      refine ⟨x19, rfl, ?_⟩
      exact a_iret dX12_mayHave_91 h18
    · refine Y_at (pc := 92) (by rw [e1]; rfl) ?_
      refine a_iload_n dX12_mayHave_92 rfl rfl ?_
      refine a_iconst (k := 0) dX12_mayHave_93 (n_lit (by decide)) ?_
      refine a_bipush (k := 40) dX12_mayHave_94 (by decide) (n_lit (by decide)) ?_
      refine iv_X12_128 dX12_mayHave_96 (Nat.le_of_ble_eq_true rfl) (MtX_mono (h.2.2.2.2.2.2.1 e1) (fun r m20 hq => ?_))
      obtain ⟨x22, rfl, h21⟩ := hq
      refine ⟨x22, rfl, ?_⟩
      exact a_iret dX12_mayHave_99 h21
    · refine Y_at (pc := 100) (by rw [e1]; rfl) ?_
      refine a_iload_n dX12_mayHave_100 rfl rfl ?_
      refine iv_X12_136 dX12_mayHave_101 (Nat.le_of_ble_eq_true rfl) (MtX_mono (h.2.2.2.2.2.2.2.1 e1) (fun r m23 hq => ?_))
      obtain ⟨x25, rfl, h24⟩ := hq
      refine ⟨x25, rfl, ?_⟩
      exact a_iret dX12_mayHave_104 h24
    · refine Y_at (pc := 105) (by rw [e1]; rfl) ?_
      refine a_iload_n dX12_mayHave_105 rfl rfl ?_
      refine iv_X12_132 dX12_mayHave_106 (Nat.le_of_ble_eq_true rfl) (MtX_mono (h.2.2.2.2.2.2.2.2.1 e1) (fun r m26 hq => ?_))
      obtain ⟨x28, rfl, h27⟩ := hq
      refine ⟨x28, rfl, ?_⟩
      exact a_iret dX12_mayHave_109 h27
  · refine a_iload_n dX12_mayHave_110 rfl rfl ?_
    refine a_iconst (k := 0) dX12_mayHave_111 (n_lit (by decide)) ?_
    refine a_bipush (k := 12) dX12_mayHave_112 (by decide) (n_lit (by decide)) ?_
    refine iv_X12_128 dX12_mayHave_114 (Nat.le_of_ble_eq_true rfl) (MtX_mono (h.2.2.2.2.2.2.2.2.2 e29) (fun r m30 hq => ?_))
    obtain ⟨x32, rfl, h31⟩ := hq
    refine ⟨x32, rfl, ?_⟩
    exact a_iret dX12_mayHave_117 h31
set_option maxRecDepth 10000 in
theorem sg_X12_mend_0 {d : Nat} {sx : Option (List Int)} (a1 : Int) (a2 : Int) (a3 : Int) (mem : AMem) (Q : Option AV → AMem → Prop) (h : MtX yX12_isOne cX12_isOne 3 (some .boolean) d [vr 12 0, vi a1, vi a2] mem (fun r m1 => ∃ x3 : Int, r = some (vi x3) ∧ ((x3 = (0 : Int) → (Q (some (vi (-1))) m1)) ∧ (¬ x3 = (0 : Int) → (MtX yX12_mayHave cX12_mayHave 2 (some .boolean) d [vi a2, vi a3] m1 (fun r m5 => ∃ x7 : Int, r = some (vi x7) ∧ ((x7 = (0 : Int) → (Q (some (vi (-1))) m5)) ∧ (¬ x7 = (0 : Int) → (MtX yX12_changes cX12_changes 6 (some .int) d [vr 12 0, vi a2, vi a1, vi a3] m5 (fun r m9 => ∃ x11 : Int, r = some (vi x11) ∧ (Q (some (vi x11)) m9))))))))))) : Y cX12_mend 4 RX12 (d + 1) sx 0 [some (vr 12 0), some (vi a1), some (vi a2), some (vi a3)] [] mem Q := by
  refine a_aload_n dX12_mend_0 rfl rfl ?_
  refine a_iload_n dX12_mend_1 rfl rfl ?_
  refine a_iload_n dX12_mend_2 rfl rfl ?_
  refine iv_X12_165 dX12_mend_3 (Nat.le_of_ble_eq_true rfl) (MtX_mono h (fun r m1 hq => ?_))
  obtain ⟨x3, rfl, h2⟩ := hq
  refine ⟨x3, rfl, ?_⟩
  refine a_if_eq (tgt := 27) dX12_mend_6 (by decide) ⟨fun c4 => ?_, fun c4 => ?_⟩
  · refine a_iconst (k := (-1)) dX12_mend_27 (n_lit (by decide)) ?_
    exact a_iret dX12_mend_28 (h2.1 c4)
  · refine a_iload_n dX12_mend_9 rfl rfl ?_
    refine a_iload_n dX12_mend_10 rfl rfl ?_
    refine iv_X12_169 dX12_mend_11 (Nat.le_of_ble_eq_true rfl) (MtX_mono (h2.2 c4) (fun r m5 hq => ?_))
    obtain ⟨x7, rfl, h6⟩ := hq
    refine ⟨x7, rfl, ?_⟩
    refine a_if_eq (tgt := 27) dX12_mend_14 (by decide) ⟨fun c8 => ?_, fun c8 => ?_⟩
    · refine a_iconst (k := (-1)) dX12_mend_27 (n_lit (by decide)) ?_
      exact a_iret dX12_mend_28 (h6.1 c8)
    · refine a_aload_n dX12_mend_17 rfl rfl ?_
      refine a_iload_n dX12_mend_18 rfl rfl ?_
      refine a_iload_n dX12_mend_19 rfl rfl ?_
      refine a_iload_n dX12_mend_20 rfl rfl ?_
      refine iv_X12_172 dX12_mend_21 (Nat.le_of_ble_eq_true rfl) (MtX_mono (h6.2 c8) (fun r m9 hq => ?_))
      obtain ⟨x11, rfl, h10⟩ := hq
      refine ⟨x11, rfl, ?_⟩
      refine a_goto (tgt := 28) dX12_mend_24 (by decide) ?_
      exact a_iret dX12_mend_28 h10
set_option maxRecDepth 10000 in
theorem sg_X12_of_0 {d : Nat} {sx : Option (List Int)} (a1 : Int) (a2 : Int) (mem : AMem) (Q : Option AV → AMem → Prop) (h : MtX yX12_isOne cX12_isOne 3 (some .boolean) d [vr 12 0, vi a1, vi a2] mem (fun r m1 => ∃ x3 : Int, r = some (vi x3) ∧ ((x3 = (0 : Int) → (Q (some (vi (-1))) m1)) ∧ (¬ x3 = (0 : Int) → (MtX yX12_valueAt cX12_valueAt 3 (some .int) d [vr 12 0, vi a2, vi a1] m1 (fun r m5 => ∃ x7 : Int, r = some (vi x7) ∧ (Q (some (vi x7)) m5))))))) : Y cX12_of 3 RX12 (d + 1) sx 0 [some (vr 12 0), some (vi a1), some (vi a2)] [] mem Q := by
  refine a_aload_n dX12_of_0 rfl rfl ?_
  refine a_iload_n dX12_of_1 rfl rfl ?_
  refine a_iload_n dX12_of_2 rfl rfl ?_
  refine iv_X12_165 dX12_of_3 (Nat.le_of_ble_eq_true rfl) (MtX_mono h (fun r m1 hq => ?_))
  obtain ⟨x3, rfl, h2⟩ := hq
  refine ⟨x3, rfl, ?_⟩
  refine a_if_eq (tgt := 18) dX12_of_6 (by decide) ⟨fun c4 => ?_, fun c4 => ?_⟩
  · refine a_iconst (k := (-1)) dX12_of_18 (n_lit (by decide)) ?_
    exact a_iret dX12_of_19 (h2.1 c4)
  · refine a_aload_n dX12_of_9 rfl rfl ?_
    refine a_iload_n dX12_of_10 rfl rfl ?_
    refine a_iload_n dX12_of_11 rfl rfl ?_
    refine iv_X12_148 dX12_of_12 (Nat.le_of_ble_eq_true rfl) (MtX_mono (h2.2 c4) (fun r m5 hq => ?_))
    obtain ⟨x7, rfl, h6⟩ := hq
    refine ⟨x7, rfl, ?_⟩
    refine a_goto (tgt := 19) dX12_of_15 (by decide) ?_
    exact a_iret dX12_of_19 h6
set_option maxRecDepth 10000 in
theorem sg_X12_feed_0 {d : Nat} {sx : Option (List Int)} (a1 : Int) (mem : AMem) (Q : Option AV → AMem → Prop) (h : MtX yX12_in cX12_in 3 (some .boolean) d [vi a1, vi 0, vi 255] mem (fun r m1 => ∃ x3 : Int, r = some (vi x3) ∧ ((x3 ≠ (0 : Int) → (((m1 12 0 14) ≠ (120 : Int) → ((0 ≤ (m1 12 0 14) ∧ (m1 12 0 14) < 120) ∧ (Q (some (vi (w32 ((m1 12 0 14) + 1)))) (upM (upM m1 1313 0 (m1 12 0 14) (b8 (b8 a1))) 12 0 14 (w32 ((m1 12 0 14) + 1)))))) ∧ ((m1 12 0 14) = (120 : Int) → (Q (some (vi (-3))) m1)))) ∧ (x3 = (0 : Int) → (Q (some (vi (-1))) m1))))) : Y cX12_feed 2 RX12 (d + 1) sx 0 [some (vr 12 0), some (vi a1)] [] mem Q := by
  refine a_iload_n dX12_feed_0 rfl rfl ?_
  refine a_iconst (k := 0) dX12_feed_1 (n_lit (by decide)) ?_
  refine a_sipush (k := 255) dX12_feed_2 (by decide) (n_lit (by decide)) ?_
  refine iv_X12_128 dX12_feed_5 (Nat.le_of_ble_eq_true rfl) (MtX_mono h (fun r m1 hq => ?_))
  obtain ⟨x3, rfl, h2⟩ := hq
  refine ⟨x3, rfl, ?_⟩
  refine a_if_ne (tgt := 13) dX12_feed_8 (by decide) ⟨fun c4 => ?_, fun c4 => ?_⟩
  · refine a_aload_n dX12_feed_13 rfl rfl ?_
    refine gf_X12_175 (x := m1 12 0 14) rfl dX12_feed_14 ?_
    refine a_bipush (k := 120) dX12_feed_17 (by decide) (n_lit (by decide)) ?_
    refine a_icmp_ne (tgt := 25) dX12_feed_19 (by decide) ⟨fun c5 => ?_, fun c5 => ?_⟩
    · refine a_aload_n dX12_feed_25 rfl rfl ?_
      refine gf_X12_37 dX12_feed_26 ?_
      refine a_aload_n dX12_feed_29 rfl rfl ?_
      refine gf_X12_175 (x := m1 12 0 14) rfl dX12_feed_30 ?_
      refine a_iload_n dX12_feed_33 rfl rfl ?_
      refine a_i2b dX12_feed_34 ?_
      refine a_bast rfl rfl (by decide) rfl dX12_feed_35 ⟨((h2.1 c4).1 c5).1, ?_⟩
      refine a_aload_n dX12_feed_36 rfl rfl ?_
      refine a_dup dX12_feed_37 rfl ?_
      refine gf_X12_175 (x := m1 12 0 14) rfl dX12_feed_38 ?_
      refine a_iconst (k := 1) dX12_feed_41 (n_lit (by decide)) ?_
      refine a_iadd dX12_feed_42 ?_
      refine pf_X12_175 dX12_feed_43 ?_
      refine a_aload_n dX12_feed_46 rfl rfl ?_
      refine gf_X12_175 (x := w32 ((m1 12 0 14) + 1)) rfl dX12_feed_47 ?_
      exact a_iret dX12_feed_50 ((h2.1 c4).1 c5).2
    · refine a_bipush (k := (-3)) dX12_feed_22 (by decide) (n_lit (by decide)) ?_
      exact a_iret dX12_feed_24 ((h2.1 c4).2 c5)
  · refine a_iconst (k := (-1)) dX12_feed_11 (n_lit (by decide)) ?_
    exact a_iret dX12_feed_12 (h2.2 c4)
set_option maxRecDepth 10000 in
theorem sg_X12_look_0 {d : Nat} {sx : Option (List Int)}  (mem : AMem) (Q : Option AV → AMem → Prop) (h : ((mem 12 0 14) ≤ (mem 12 0 15) → (Q (some (vi (-1))) mem)) ∧ (¬ (mem 12 0 14) ≤ (mem 12 0 15) → ((0 ≤ (mem 12 0 15) ∧ (mem 12 0 15) < 120) ∧ (Q (some (vi (mem 1313 0 (mem 12 0 15)))) mem)))) : Y cX12_look 1 RX12 (d + 1) sx 0 [some (vr 12 0)] [] mem Q := by
  refine a_aload_n dX12_look_0 rfl rfl ?_
  refine gf_X12_178 (x := mem 12 0 15) rfl dX12_look_1 ?_
  refine a_aload_n dX12_look_4 rfl rfl ?_
  refine gf_X12_175 (x := mem 12 0 14) rfl dX12_look_5 ?_
  refine a_icmp_ge (tgt := 23) dX12_look_8 (by decide) ⟨fun c1 => ?_, fun c1 => ?_⟩
  · refine a_iconst (k := (-1)) dX12_look_23 (n_lit (by decide)) ?_
    exact a_iret dX12_look_24 (h.1 c1)
  · refine a_aload_n dX12_look_11 rfl rfl ?_
    refine gf_X12_37 dX12_look_12 ?_
    refine a_aload_n dX12_look_15 rfl rfl ?_
    refine gf_X12_178 (x := mem 12 0 15) rfl dX12_look_16 ?_
    refine a_bald rfl rfl (by decide) rfl dX12_look_19 ⟨(h.2 c1).1, ?_⟩
    refine a_goto (tgt := 24) dX12_look_20 (by decide) ?_
    exact a_iret dX12_look_24 (h.2 c1).2
set_option maxRecDepth 10000 in
theorem sg_X12_wrong_0 {d : Nat} {sx : Option (List Int)}  (mem : AMem) (Q : Option AV → AMem → Prop) (h : ((0 : Int) ≤ (mem 12 0 16) → (Q none mem)) ∧ (¬ (0 : Int) ≤ (mem 12 0 16) → (Q none (upM mem 12 0 16 (mem 12 0 15))))) : Y cX12_wrong 1 RX12 (d + 1) sx 0 [some (vr 12 0)] [] mem Q := by
  refine a_aload_n dX12_wrong_0 rfl rfl ?_
  refine gf_X12_181 (x := mem 12 0 16) rfl dX12_wrong_1 ?_
  refine a_if_ge (tgt := 15) dX12_wrong_4 (by decide) ⟨fun c1 => ?_, fun c1 => ?_⟩
  · exact a_vret dX12_wrong_15 (h.1 c1)
  · refine a_aload_n dX12_wrong_7 rfl rfl ?_
    refine a_aload_n dX12_wrong_8 rfl rfl ?_
    refine gf_X12_178 (x := mem 12 0 15) rfl dX12_wrong_9 ?_
    refine pf_X12_181 dX12_wrong_12 ?_
    exact a_vret dX12_wrong_15 (h.2 c1)
set_option maxRecDepth 10000 in
theorem sg_X12_addStep_0 {d : Nat} {sx : Option (List Int)} (a1 : Int) (a2 : Int) (mem : AMem) (Q : Option AV → AMem → Prop) (h : (0 ≤ (w32 (130 + (mem 12 0 18))) ∧ (w32 (130 + (mem 12 0 18))) < 260) ∧ ((0 ≤ (w32 (130 + (mem 12 0 18))) ∧ (w32 (130 + (mem 12 0 18))) < 260) ∧ (Q none (upM (upM (upM mem 1319 0 (w32 (130 + (mem 12 0 18))) (b8 (b8 a1))) 1320 0 (w32 (130 + (mem 12 0 18))) a2) 12 0 18 (w32 ((mem 12 0 18) + 1)))))) : Y cX12_addStep 3 RX12 (d + 1) sx 0 [some (vr 12 0), some (vi a1), some (vi a2)] [] mem Q := by
  refine a_aload_n dX12_addStep_0 rfl rfl ?_
  refine gf_X12_41 dX12_addStep_1 ?_
  refine a_sipush (k := 130) dX12_addStep_4 (by decide) (n_lit (by decide)) ?_
  refine a_aload_n dX12_addStep_7 rfl rfl ?_
  refine gf_X12_184 (x := mem 12 0 18) rfl dX12_addStep_8 ?_
  refine a_iadd dX12_addStep_11 ?_
  refine a_iload_n dX12_addStep_12 rfl rfl ?_
  refine a_i2b dX12_addStep_13 ?_
  refine a_bast rfl rfl (by decide) rfl dX12_addStep_14 ⟨h.1, ?_⟩
  refine a_aload_n dX12_addStep_15 rfl rfl ?_
  refine gf_X12_44 dX12_addStep_16 ?_
  refine a_sipush (k := 130) dX12_addStep_19 (by decide) (n_lit (by decide)) ?_
  refine a_aload_n dX12_addStep_22 rfl rfl ?_
  refine gf_X12_184 (x := mem 12 0 18) rfl dX12_addStep_23 ?_
  refine a_iadd dX12_addStep_26 ?_
  refine a_iload_n dX12_addStep_27 rfl rfl ?_
  refine a_iast rfl rfl (by decide) rfl dX12_addStep_28 ⟨h.2.1, ?_⟩
  refine a_aload_n dX12_addStep_29 rfl rfl ?_
  refine a_dup dX12_addStep_30 rfl ?_
  refine gf_X12_184 (x := mem 12 0 18) rfl dX12_addStep_31 ?_
  refine a_iconst (k := 1) dX12_addStep_34 (n_lit (by decide)) ?_
  refine a_iadd dX12_addStep_35 ?_
  refine pf_X12_184 dX12_addStep_36 ?_
  exact a_vret dX12_addStep_39 h.2.2
set_option maxRecDepth 10000 in
theorem sg_X12_nameOf_0 {d : Nat} {sx : Option (List Int)} (a0 : Int) (mem : AMem) (Q : Option AV → AMem → Prop) (h : (a0 = 98 → (Q (some (vi 2)) mem)) ∧ (a0 = 99 → (Q (some (vi 5)) mem)) ∧ (a0 = 100 → (Q (some (vi 0)) mem)) ∧ (a0 = 101 → (Q (some (vi (-1))) mem)) ∧ (a0 = 102 → (Q (some (vi (-1))) mem)) ∧ (a0 = 103 → (Q (some (vi (-1))) mem)) ∧ (a0 = 104 → (Q (some (vi (-1))) mem)) ∧ (a0 = 105 → (Q (some (vi (-1))) mem)) ∧ (a0 = 106 → (Q (some (vi (-1))) mem)) ∧ (a0 = 107 → (Q (some (vi (-1))) mem)) ∧ (a0 = 108 → (Q (some (vi (-1))) mem)) ∧ (a0 = 109 → (Q (some (vi (-1))) mem)) ∧ (a0 = 110 → (Q (some (vi 4)) mem)) ∧ (a0 = 111 → (Q (some (vi (-1))) mem)) ∧ (a0 = 112 → (Q (some (vi (-1))) mem)) ∧ (a0 = 113 → (Q (some (vi (-1))) mem)) ∧ (a0 = 114 → (Q (some (vi 1)) mem)) ∧ (a0 = 115 → (Q (some (vi 3)) mem)) ∧ (¬ (98 ≤ a0 ∧ a0 ≤ 115) → (Q (some (vi (-1))) mem))) : Y cX12_nameOf 1 RX12 (d + 1) sx 0 [some (vi a0)] [] mem Q := by
  refine a_iload_n dX12_nameOf_0 rfl rfl ?_
  refine a_table dX12_nameOf_1 (fun z => if z = 98 then 92 else if z = 99 then 98 else if z = 100 then 88 else if z = 101 then 100 else if z = 102 then 100 else if z = 103 then 100 else if z = 104 then 100 else if z = 105 then 100 else if z = 106 then 100 else if z = 107 then 100 else if z = 108 then 100 else if z = 109 then 100 else if z = 110 then 96 else if z = 111 then 100 else if z = 112 then 100 else if z = 113 then 100 else if z = 114 then 90 else if z = 115 then 94 else 0) 100 (by decide) (by decide) (by decide) ⟨fun e1a e1b => ?_, fun e2 => ?_⟩
  · rcases (by omega : a0 = 98 ∨ a0 = 99 ∨ a0 = 100 ∨ a0 = 101 ∨ a0 = 102 ∨ a0 = 103 ∨ a0 = 104 ∨ a0 = 105 ∨ a0 = 106 ∨ a0 = 107 ∨ a0 = 108 ∨ a0 = 109 ∨ a0 = 110 ∨ a0 = 111 ∨ a0 = 112 ∨ a0 = 113 ∨ a0 = 114 ∨ a0 = 115) with e1 | e1 | e1 | e1 | e1 | e1 | e1 | e1 | e1 | e1 | e1 | e1 | e1 | e1 | e1 | e1 | e1 | e1
    · refine Y_at (pc := 92) (by rw [e1]; rfl) ?_
      refine a_iconst (k := 2) dX12_nameOf_92 (n_lit (by decide)) ?_
      exact a_iret dX12_nameOf_93 (h.1 e1)
    · refine Y_at (pc := 98) (by rw [e1]; rfl) ?_
      refine a_iconst (k := 5) dX12_nameOf_98 (n_lit (by decide)) ?_
      exact a_iret dX12_nameOf_99 (h.2.1 e1)
    · refine Y_at (pc := 88) (by rw [e1]; rfl) ?_
      refine a_iconst (k := 0) dX12_nameOf_88 (n_lit (by decide)) ?_
      exact a_iret dX12_nameOf_89 (h.2.2.1 e1)
    · refine Y_at (pc := 100) (by rw [e1]; rfl) ?_
      refine a_iconst (k := (-1)) dX12_nameOf_100 (n_lit (by decide)) ?_
      exact a_iret dX12_nameOf_101 (h.2.2.2.1 e1)
    · refine Y_at (pc := 100) (by rw [e1]; rfl) ?_
      refine a_iconst (k := (-1)) dX12_nameOf_100 (n_lit (by decide)) ?_
      exact a_iret dX12_nameOf_101 (h.2.2.2.2.1 e1)
    · refine Y_at (pc := 100) (by rw [e1]; rfl) ?_
      refine a_iconst (k := (-1)) dX12_nameOf_100 (n_lit (by decide)) ?_
      exact a_iret dX12_nameOf_101 (h.2.2.2.2.2.1 e1)
    · refine Y_at (pc := 100) (by rw [e1]; rfl) ?_
      refine a_iconst (k := (-1)) dX12_nameOf_100 (n_lit (by decide)) ?_
      exact a_iret dX12_nameOf_101 (h.2.2.2.2.2.2.1 e1)
    · refine Y_at (pc := 100) (by rw [e1]; rfl) ?_
      refine a_iconst (k := (-1)) dX12_nameOf_100 (n_lit (by decide)) ?_
      exact a_iret dX12_nameOf_101 (h.2.2.2.2.2.2.2.1 e1)
    · refine Y_at (pc := 100) (by rw [e1]; rfl) ?_
      refine a_iconst (k := (-1)) dX12_nameOf_100 (n_lit (by decide)) ?_
      exact a_iret dX12_nameOf_101 (h.2.2.2.2.2.2.2.2.1 e1)
    · refine Y_at (pc := 100) (by rw [e1]; rfl) ?_
      refine a_iconst (k := (-1)) dX12_nameOf_100 (n_lit (by decide)) ?_
      exact a_iret dX12_nameOf_101 (h.2.2.2.2.2.2.2.2.2.1 e1)
    · refine Y_at (pc := 100) (by rw [e1]; rfl) ?_
      refine a_iconst (k := (-1)) dX12_nameOf_100 (n_lit (by decide)) ?_
      exact a_iret dX12_nameOf_101 (h.2.2.2.2.2.2.2.2.2.2.1 e1)
    · refine Y_at (pc := 100) (by rw [e1]; rfl) ?_
      refine a_iconst (k := (-1)) dX12_nameOf_100 (n_lit (by decide)) ?_
      exact a_iret dX12_nameOf_101 (h.2.2.2.2.2.2.2.2.2.2.2.1 e1)
    · refine Y_at (pc := 96) (by rw [e1]; rfl) ?_
      refine a_iconst (k := 4) dX12_nameOf_96 (n_lit (by decide)) ?_
      exact a_iret dX12_nameOf_97 (h.2.2.2.2.2.2.2.2.2.2.2.2.1 e1)
    · refine Y_at (pc := 100) (by rw [e1]; rfl) ?_
      refine a_iconst (k := (-1)) dX12_nameOf_100 (n_lit (by decide)) ?_
      exact a_iret dX12_nameOf_101 (h.2.2.2.2.2.2.2.2.2.2.2.2.2.1 e1)
    · refine Y_at (pc := 100) (by rw [e1]; rfl) ?_
      refine a_iconst (k := (-1)) dX12_nameOf_100 (n_lit (by decide)) ?_
      exact a_iret dX12_nameOf_101 (h.2.2.2.2.2.2.2.2.2.2.2.2.2.2.1 e1)
    · refine Y_at (pc := 100) (by rw [e1]; rfl) ?_
      refine a_iconst (k := (-1)) dX12_nameOf_100 (n_lit (by decide)) ?_
      exact a_iret dX12_nameOf_101 (h.2.2.2.2.2.2.2.2.2.2.2.2.2.2.2.1 e1)
    · refine Y_at (pc := 90) (by rw [e1]; rfl) ?_
      refine a_iconst (k := 1) dX12_nameOf_90 (n_lit (by decide)) ?_
      exact a_iret dX12_nameOf_91 (h.2.2.2.2.2.2.2.2.2.2.2.2.2.2.2.2.1 e1)
    · refine Y_at (pc := 94) (by rw [e1]; rfl) ?_
      refine a_iconst (k := 3) dX12_nameOf_94 (n_lit (by decide)) ?_
      exact a_iret dX12_nameOf_95 (h.2.2.2.2.2.2.2.2.2.2.2.2.2.2.2.2.2.1 e1)
  · refine a_iconst (k := (-1)) dX12_nameOf_100 (n_lit (by decide)) ?_
    exact a_iret dX12_nameOf_101 (h.2.2.2.2.2.2.2.2.2.2.2.2.2.2.2.2.2.2 e2)
set_option maxRecDepth 10000 in
theorem sg_X12_opens_0 {d : Nat} {sx : Option (List Int)}  (mem : AMem) (Q : Option AV → AMem → Prop) (h : ((mem 12 0 17) ≠ (6 : Int) → (Q (some (vi 1)) (upM (upM mem 12 0 17 (w32 ((mem 12 0 17) + 1))) 12 0 15 (w32 ((mem 12 0 15) + 1))))) ∧ ((mem 12 0 17) = (6 : Int) → (MtX yX12_wrong cX12_wrong 1 none d [vr 12 0] mem (fun r m2 => r = none ∧ (Q (some (vi 0)) m2))))) : Y cX12_opens 1 RX12 (d + 1) sx 0 [some (vr 12 0)] [] mem Q := by
  refine a_aload_n dX12_opens_0 rfl rfl ?_
  refine gf_X12_187 (x := mem 12 0 17) rfl dX12_opens_1 ?_
  refine a_bipush (k := 6) dX12_opens_4 (by decide) (n_lit (by decide)) ?_
  refine a_icmp_ne (tgt := 15) dX12_opens_6 (by decide) ⟨fun c1 => ?_, fun c1 => ?_⟩
  · refine a_aload_n dX12_opens_15 rfl rfl ?_
    refine a_dup dX12_opens_16 rfl ?_
    refine gf_X12_187 (x := mem 12 0 17) rfl dX12_opens_17 ?_
    refine a_iconst (k := 1) dX12_opens_20 (n_lit (by decide)) ?_
    refine a_iadd dX12_opens_21 ?_
    refine pf_X12_187 dX12_opens_22 ?_
    refine a_aload_n dX12_opens_25 rfl rfl ?_
    refine a_dup dX12_opens_26 rfl ?_
    refine gf_X12_178 (x := mem 12 0 15) rfl dX12_opens_27 ?_
    refine a_iconst (k := 1) dX12_opens_30 (n_lit (by decide)) ?_
    refine a_iadd dX12_opens_31 ?_
    refine pf_X12_178 dX12_opens_32 ?_
    refine a_iconst (k := 1) dX12_opens_35 (n_lit (by decide)) ?_
    exact a_iret dX12_opens_36 (h.1 c1)
  · refine a_aload_n dX12_opens_9 rfl rfl ?_
    refine iv_X12_190 dX12_opens_10 (Nat.le_of_ble_eq_true rfl) (MtX_mono (h.2 c1) (fun r m2 hq => ?_))
    obtain ⟨rfl, h3⟩ := hq
    refine ⟨rfl, ?_⟩
    refine a_iconst (k := 0) dX12_opens_13 (n_lit (by decide)) ?_
    exact a_iret dX12_opens_14 h3
set_option maxRecDepth 10000 in
theorem sg_X12_figure_0 {d : Nat} {sx : Option (List Int)}  (mem : AMem) (Q : Option AV → AMem → Prop) (h : Y cX12_figure 3 RX12 (d + 1) sx 4 [some (vr 12 0), some (vi 0), some (vi 0)] [] mem Q) : Y cX12_figure 3 RX12 (d + 1) sx 0 [some (vr 12 0), none, none] [] mem Q := by
  refine a_iconst (k := 0) dX12_figure_0 (n_lit (by decide)) ?_
  refine a_istore_n dX12_figure_1 rfl (by decide) rfl ?_
  refine a_iconst (k := 0) dX12_figure_2 (n_lit (by decide)) ?_
  refine a_istore_n dX12_figure_3 rfl (by decide) rfl ?_
  exact h
set_option maxRecDepth 10000 in
theorem sg_X12_figure_4 {d : Nat} {sx : Option (List Int)} (a1 : Int) (a2 : Int) (mem : AMem) (Q : Option AV → AMem → Prop) (h : ((4 : Int) ≤ a2 → (Y cX12_figure 3 RX12 (d + 1) sx 52 [some (vr 12 0), some (vi a1), some (vi a2)] [] mem Q)) ∧ (¬ (4 : Int) ≤ a2 → (MtX yX12_look cX12_look 1 (some .int) d [vr 12 0] mem (fun r m2 => ∃ x4 : Int, r = some (vi x4) ∧ (MtX yX12_in cX12_in 3 (some .boolean) d [vi x4, vi 48, vi 57] m2 (fun r m5 => ∃ x7 : Int, r = some (vi x7) ∧ ((x7 = (0 : Int) → (Y cX12_figure 3 RX12 (d + 1) sx 52 [some (vr 12 0), some (vi a1), some (vi a2)] [] m5 Q)) ∧ (¬ x7 = (0 : Int) → (MtX yX12_look cX12_look 1 (some .int) d [vr 12 0] m5 (fun r m9 => ∃ x11 : Int, r = some (vi x11) ∧ (Y cX12_figure 3 RX12 (d + 1) sx 4 [some (vr 12 0), some (vi (w32 ((w32 ((w32 (10 * a1)) + x11)) - 48))), some (vi (w32 (a2 + 1)))] [] (upM m9 12 0 15 (w32 ((m9 12 0 15) + 1))) Q))))))))))) : Y cX12_figure 3 RX12 (d + 1) sx 4 [some (vr 12 0), some (vi a1), some (vi a2)] [] mem Q := by
  refine a_iload_n dX12_figure_4 rfl rfl ?_
  refine a_iconst (k := 4) dX12_figure_5 (n_lit (by decide)) ?_
  refine a_icmp_ge (tgt := 52) dX12_figure_6 (by decide) ⟨fun c1 => ?_, fun c1 => ?_⟩
  · exact (h.1 c1)
  · refine a_aload_n dX12_figure_9 rfl rfl ?_
    refine iv_X12_193 dX12_figure_10 (Nat.le_of_ble_eq_true rfl) (MtX_mono (h.2 c1) (fun r m2 hq => ?_))
    obtain ⟨x4, rfl, h3⟩ := hq
    refine ⟨x4, rfl, ?_⟩
    refine a_bipush (k := 48) dX12_figure_13 (by decide) (n_lit (by decide)) ?_
    refine a_bipush (k := 57) dX12_figure_15 (by decide) (n_lit (by decide)) ?_
    refine iv_X12_128 dX12_figure_17 (Nat.le_of_ble_eq_true rfl) (MtX_mono h3 (fun r m5 hq => ?_))
    obtain ⟨x7, rfl, h6⟩ := hq
    refine ⟨x7, rfl, ?_⟩
    refine a_if_eq (tgt := 52) dX12_figure_20 (by decide) ⟨fun c8 => ?_, fun c8 => ?_⟩
    · exact (h6.1 c8)
    · refine a_bipush (k := 10) dX12_figure_23 (by decide) (n_lit (by decide)) ?_
      refine a_iload_n dX12_figure_25 rfl rfl ?_
      refine a_imul dX12_figure_26 ?_
      refine a_aload_n dX12_figure_27 rfl rfl ?_
      refine iv_X12_193 dX12_figure_28 (Nat.le_of_ble_eq_true rfl) (MtX_mono (h6.2 c8) (fun r m9 hq => ?_))
      obtain ⟨x11, rfl, h10⟩ := hq
      refine ⟨x11, rfl, ?_⟩
      refine a_iadd dX12_figure_31 ?_
      refine a_bipush (k := 48) dX12_figure_32 (by decide) (n_lit (by decide)) ?_
      refine a_isub dX12_figure_34 ?_
      refine a_istore_n dX12_figure_35 rfl (by decide) rfl ?_
      refine a_iinc dX12_figure_36 rfl (by decide) rfl ?_
      refine a_aload_n dX12_figure_39 rfl rfl ?_
      refine a_dup dX12_figure_40 rfl ?_
      refine gf_X12_178 (x := m9 12 0 15) rfl dX12_figure_41 ?_
      refine a_iconst (k := 1) dX12_figure_44 (n_lit (by decide)) ?_
      refine a_iadd dX12_figure_45 ?_
      refine pf_X12_178 dX12_figure_46 ?_
      refine a_goto (tgt := 4) dX12_figure_49 (by decide) ?_
      exact h10
set_option maxRecDepth 10000 in
theorem sg_X12_figure_52 {d : Nat} {sx : Option (List Int)} (a1 : Int) (a2 : Int) (mem : AMem) (Q : Option AV → AMem → Prop) (h : (a2 = (0 : Int) → (MtX yX12_wrong cX12_wrong 1 none d [vr 12 0] mem (fun r m2 => r = none ∧ (MtX yX12_addStep cX12_addStep 3 none d [vr 12 0, vi 1, vi a1] m2 (fun r m4 => r = none ∧ (Q none m4)))))) ∧ (¬ a2 = (0 : Int) → (MtX yX12_look cX12_look 1 (some .int) d [vr 12 0] mem (fun r m6 => ∃ x8 : Int, r = some (vi x8) ∧ (MtX yX12_in cX12_in 3 (some .boolean) d [vi x8, vi 48, vi 57] m6 (fun r m9 => ∃ x11 : Int, r = some (vi x11) ∧ ((x11 = (0 : Int) → (MtX yX12_addStep cX12_addStep 3 none d [vr 12 0, vi 1, vi a1] m9 (fun r m13 => r = none ∧ (Q none m13)))) ∧ (¬ x11 = (0 : Int) → (MtX yX12_wrong cX12_wrong 1 none d [vr 12 0] m9 (fun r m15 => r = none ∧ (MtX yX12_addStep cX12_addStep 3 none d [vr 12 0, vi 1, vi a1] m15 (fun r m17 => r = none ∧ (Q none m17))))))))))))) : Y cX12_figure 3 RX12 (d + 1) sx 52 [some (vr 12 0), some (vi a1), some (vi a2)] [] mem Q := by
  refine a_iload_n dX12_figure_52 rfl rfl ?_
  refine a_if_eq (tgt := 70) dX12_figure_53 (by decide) ⟨fun c1 => ?_, fun c1 => ?_⟩
  · refine a_aload_n dX12_figure_70 rfl rfl ?_
    refine iv_X12_190 dX12_figure_71 (Nat.le_of_ble_eq_true rfl) (MtX_mono (h.1 c1) (fun r m2 hq => ?_))
    obtain ⟨rfl, h3⟩ := hq
    refine ⟨rfl, ?_⟩
    refine a_aload_n dX12_figure_74 rfl rfl ?_
    refine a_iconst (k := 1) dX12_figure_75 (n_lit (by decide)) ?_
    refine a_iload_n dX12_figure_76 rfl rfl ?_
    refine iv_X12_197 dX12_figure_77 (Nat.le_of_ble_eq_true rfl) (MtX_mono h3 (fun r m4 hq => ?_))
    obtain ⟨rfl, h5⟩ := hq
    refine ⟨rfl, ?_⟩
    exact a_vret dX12_figure_80 h5
  · refine a_aload_n dX12_figure_56 rfl rfl ?_
    refine iv_X12_193 dX12_figure_57 (Nat.le_of_ble_eq_true rfl) (MtX_mono (h.2 c1) (fun r m6 hq => ?_))
    obtain ⟨x8, rfl, h7⟩ := hq
    refine ⟨x8, rfl, ?_⟩
    refine a_bipush (k := 48) dX12_figure_60 (by decide) (n_lit (by decide)) ?_
    refine a_bipush (k := 57) dX12_figure_62 (by decide) (n_lit (by decide)) ?_
    refine iv_X12_128 dX12_figure_64 (Nat.le_of_ble_eq_true rfl) (MtX_mono h7 (fun r m9 hq => ?_))
    obtain ⟨x11, rfl, h10⟩ := hq
    refine ⟨x11, rfl, ?_⟩
    refine a_if_eq (tgt := 74) dX12_figure_67 (by decide) ⟨fun c12 => ?_, fun c12 => ?_⟩
    · refine a_aload_n dX12_figure_74 rfl rfl ?_
      refine a_iconst (k := 1) dX12_figure_75 (n_lit (by decide)) ?_
      refine a_iload_n dX12_figure_76 rfl rfl ?_
      refine iv_X12_197 dX12_figure_77 (Nat.le_of_ble_eq_true rfl) (MtX_mono (h10.1 c12) (fun r m13 hq => ?_))
      obtain ⟨rfl, h14⟩ := hq
      refine ⟨rfl, ?_⟩
      exact a_vret dX12_figure_80 h14
    · refine a_aload_n dX12_figure_70 rfl rfl ?_
      refine iv_X12_190 dX12_figure_71 (Nat.le_of_ble_eq_true rfl) (MtX_mono (h10.2 c12) (fun r m15 hq => ?_))
      obtain ⟨rfl, h16⟩ := hq
      refine ⟨rfl, ?_⟩
      refine a_aload_n dX12_figure_74 rfl rfl ?_
      refine a_iconst (k := 1) dX12_figure_75 (n_lit (by decide)) ?_
      refine a_iload_n dX12_figure_76 rfl rfl ?_
      refine iv_X12_197 dX12_figure_77 (Nat.le_of_ble_eq_true rfl) (MtX_mono h16 (fun r m17 hq => ?_))
      obtain ⟨rfl, h18⟩ := hq
      refine ⟨rfl, ?_⟩
      exact a_vret dX12_figure_80 h18
set_option maxRecDepth 10000 in
theorem sg_X12_operand_0 {d : Nat} {sx : Option (List Int)}  (mem : AMem) (Q : Option AV → AMem → Prop) (h : MtX yX12_look cX12_look 1 (some .int) d [vr 12 0] mem (fun r m1 => ∃ x3 : Int, r = some (vi x3) ∧ (MtX yX12_nameOf cX12_nameOf 1 (some .int) d [vi x3] m1 (fun r m4 => ∃ x6 : Int, r = some (vi x6) ∧ ((x6 < (0 : Int) → ((x3 = (33 : Int) → (Y cX12_operand 2 RX12 (d + 1) sx 46 [some (vr 12 0), some (vi x3)] [] m4 Q)) ∧ (¬ x3 = (33 : Int) → ((x3 ≠ (45 : Int) → ((x3 ≠ (40 : Int) → (MtX yX12_figure cX12_figure 3 none d [vr 12 0] m4 (fun r m11 => r = none ∧ (Q none m11)))) ∧ (x3 = (40 : Int) → (MtX yX12_opens cX12_opens 1 (some .boolean) d [vr 12 0] m4 (fun r m13 => ∃ x15 : Int, r = some (vi x15) ∧ ((x15 ≠ (0 : Int) → (MtX yX12_either cX12_either 1 none d [vr 12 0] m13 (fun r m17 => r = none ∧ (((m17 12 0 16) < (0 : Int) → (MtX yX12_look cX12_look 1 (some .int) d [vr 12 0] m17 (fun r m20 => ∃ x22 : Int, r = some (vi x22) ∧ ((x22 = (41 : Int) → (Q none (upM (upM m20 12 0 15 (w32 ((m20 12 0 15) + 1))) 12 0 17 (w32 ((m20 12 0 17) - 1))))) ∧ (¬ x22 = (41 : Int) → (MtX yX12_wrong cX12_wrong 1 none d [vr 12 0] m20 (fun r m24 => r = none ∧ (Q none m24)))))))) ∧ (¬ (m17 12 0 16) < (0 : Int) → (Q none m17)))))) ∧ (x15 = (0 : Int) → (Q none m13)))))))) ∧ (x3 = (45 : Int) → (Y cX12_operand 2 RX12 (d + 1) sx 46 [some (vr 12 0), some (vi x3)] [] m4 Q)))))) ∧ (¬ x6 < (0 : Int) → (MtX yX12_nameOf cX12_nameOf 1 (some .int) d [vi x3] m4 (fun r m26 => ∃ x28 : Int, r = some (vi x28) ∧ (MtX yX12_addStep cX12_addStep 3 none d [vr 12 0, vi 2, vi x28] m26 (fun r m29 => r = none ∧ (Q none (upM m29 12 0 15 (w32 ((m29 12 0 15) + 1)))))))))))))) : Y cX12_operand 2 RX12 (d + 1) sx 0 [some (vr 12 0), none] [] mem Q := by
  refine a_aload_n dX12_operand_0 rfl rfl ?_
  refine iv_X12_193 dX12_operand_1 (Nat.le_of_ble_eq_true rfl) (MtX_mono h (fun r m1 hq => ?_))
  obtain ⟨x3, rfl, h2⟩ := hq
  refine ⟨x3, rfl, ?_⟩
  refine a_istore_n dX12_operand_4 rfl (by decide) rfl ?_
  refine a_iload_n dX12_operand_5 rfl rfl ?_
  refine iv_X12_201 dX12_operand_6 (Nat.le_of_ble_eq_true rfl) (MtX_mono h2 (fun r m4 hq => ?_))
  obtain ⟨x6, rfl, h5⟩ := hq
  refine ⟨x6, rfl, ?_⟩
  refine a_if_lt (tgt := 34) dX12_operand_9 (by decide) ⟨fun c7 => ?_, fun c7 => ?_⟩
  · refine a_iload_n dX12_operand_34 rfl rfl ?_
    refine a_bipush (k := 33) dX12_operand_35 (by decide) (n_lit (by decide)) ?_
    refine a_icmp_eq (tgt := 46) dX12_operand_37 (by decide) ⟨fun c8 => ?_, fun c8 => ?_⟩
    · exact ((h5.1 c7).1 c8)
    · refine a_iload_n dX12_operand_40 rfl rfl ?_
      refine a_bipush (k := 45) dX12_operand_41 (by decide) (n_lit (by decide)) ?_
      refine a_icmp_ne (tgt := 87) dX12_operand_43 (by decide) ⟨fun c9 => ?_, fun c9 => ?_⟩
      · refine a_iload_n dX12_operand_87 rfl rfl ?_
        refine a_bipush (k := 40) dX12_operand_88 (by decide) (n_lit (by decide)) ?_
        refine a_icmp_ne (tgt := 150) dX12_operand_90 (by decide) ⟨fun c10 => ?_, fun c10 => ?_⟩
        · refine a_aload_n dX12_operand_150 rfl rfl ?_
          refine iv_X12_215 dX12_operand_151 (Nat.le_of_ble_eq_true rfl) (MtX_mono ((((h5.1 c7).2 c8).1 c9).1 c10) (fun r m11 hq => ?_))
          obtain ⟨rfl, h12⟩ := hq
          refine ⟨rfl, ?_⟩
          exact a_vret dX12_operand_154 h12
        · refine a_aload_n dX12_operand_93 rfl rfl ?_
          refine iv_X12_205 dX12_operand_94 (Nat.le_of_ble_eq_true rfl) (MtX_mono ((((h5.1 c7).2 c8).1 c9).2 c10) (fun r m13 hq => ?_))
          obtain ⟨x15, rfl, h14⟩ := hq
          refine ⟨x15, rfl, ?_⟩
          refine a_if_ne (tgt := 101) dX12_operand_97 (by decide) ⟨fun c16 => ?_, fun c16 => ?_⟩
          · refine a_aload_n dX12_operand_101 rfl rfl ?_
            refine iv_X12_212 dX12_operand_102 (Nat.le_of_ble_eq_true rfl) (MtX_mono (h14.1 c16) (fun r m17 hq => ?_))
            obtain ⟨rfl, h18⟩ := hq
            refine ⟨rfl, ?_⟩
            refine a_aload_n dX12_operand_105 rfl rfl ?_
            refine gf_X12_181 (x := m17 12 0 16) rfl dX12_operand_106 ?_
            refine a_if_lt (tgt := 113) dX12_operand_109 (by decide) ⟨fun c19 => ?_, fun c19 => ?_⟩
            · refine a_aload_n dX12_operand_113 rfl rfl ?_
              refine iv_X12_193 dX12_operand_114 (Nat.le_of_ble_eq_true rfl) (MtX_mono (h18.1 c19) (fun r m20 hq => ?_))
              obtain ⟨x22, rfl, h21⟩ := hq
              refine ⟨x22, rfl, ?_⟩
              refine a_bipush (k := 41) dX12_operand_117 (by decide) (n_lit (by decide)) ?_
              refine a_icmp_eq (tgt := 127) dX12_operand_119 (by decide) ⟨fun c23 => ?_, fun c23 => ?_⟩
              · refine a_aload_n dX12_operand_127 rfl rfl ?_
                refine a_dup dX12_operand_128 rfl ?_
                refine gf_X12_178 (x := m20 12 0 15) rfl dX12_operand_129 ?_
                refine a_iconst (k := 1) dX12_operand_132 (n_lit (by decide)) ?_
                refine a_iadd dX12_operand_133 ?_
                refine pf_X12_178 dX12_operand_134 ?_
                refine a_aload_n dX12_operand_137 rfl rfl ?_
                refine a_dup dX12_operand_138 rfl ?_
                refine gf_X12_187 (x := m20 12 0 17) rfl dX12_operand_139 ?_
                refine a_iconst (k := 1) dX12_operand_142 (n_lit (by decide)) ?_
                refine a_isub dX12_operand_143 ?_
                refine pf_X12_187 dX12_operand_144 ?_
                refine a_goto (tgt := 154) dX12_operand_147 (by decide) ?_
                exact a_vret dX12_operand_154 (h21.1 c23)
              · refine a_aload_n dX12_operand_122 rfl rfl ?_
                refine iv_X12_190 dX12_operand_123 (Nat.le_of_ble_eq_true rfl) (MtX_mono (h21.2 c23) (fun r m24 hq => ?_))
                obtain ⟨rfl, h25⟩ := hq
                refine ⟨rfl, ?_⟩
                exact a_vret dX12_operand_126 h25
            · exact a_vret dX12_operand_112 (h18.2 c19)
          · exact a_vret dX12_operand_100 (h14.2 c16)
      · exact (((h5.1 c7).2 c8).2 c9)
  · refine a_aload_n dX12_operand_12 rfl rfl ?_
    refine a_iconst (k := 2) dX12_operand_13 (n_lit (by decide)) ?_
    refine a_iload_n dX12_operand_14 rfl rfl ?_
    refine iv_X12_201 dX12_operand_15 (Nat.le_of_ble_eq_true rfl) (MtX_mono (h5.2 c7) (fun r m26 hq => ?_))
    obtain ⟨x28, rfl, h27⟩ := hq
    refine ⟨x28, rfl, ?_⟩
    refine iv_X12_197 dX12_operand_18 (Nat.le_of_ble_eq_true rfl) (MtX_mono h27 (fun r m29 hq => ?_))
    obtain ⟨rfl, h30⟩ := hq
    refine ⟨rfl, ?_⟩
    refine a_aload_n dX12_operand_21 rfl rfl ?_
    refine a_dup dX12_operand_22 rfl ?_
    refine gf_X12_178 (x := m29 12 0 15) rfl dX12_operand_23 ?_
    refine a_iconst (k := 1) dX12_operand_26 (n_lit (by decide)) ?_
    refine a_iadd dX12_operand_27 ?_
    refine pf_X12_178 dX12_operand_28 ?_
    refine a_goto (tgt := 154) dX12_operand_31 (by decide) ?_
    exact a_vret dX12_operand_154 h30
set_option maxRecDepth 10000 in
theorem sg_X12_operand_46 {d : Nat} {sx : Option (List Int)} (a1 : Int) (mem : AMem) (Q : Option AV → AMem → Prop) (h : MtX yX12_opens cX12_opens 1 (some .boolean) d [vr 12 0] mem (fun r m1 => ∃ x3 : Int, r = some (vi x3) ∧ ((x3 ≠ (0 : Int) → (MtX yX12_operand cX12_operand 2 none d [vr 12 0] m1 (fun r m5 => r = none ∧ ((a1 ≠ (33 : Int) → (MtX yX12_addStep cX12_addStep 3 none d [vr 12 0, vi 4, vi 0] (upM m5 12 0 17 (w32 ((m5 12 0 17) - 1))) (fun r m8 => r = none ∧ (Q none m8)))) ∧ (a1 = (33 : Int) → (MtX yX12_addStep cX12_addStep 3 none d [vr 12 0, vi 3, vi 0] (upM m5 12 0 17 (w32 ((m5 12 0 17) - 1))) (fun r m10 => r = none ∧ (Q none m10)))))))) ∧ (x3 = (0 : Int) → (Q none m1))))) : Y cX12_operand 2 RX12 (d + 1) sx 46 [some (vr 12 0), some (vi a1)] [] mem Q := by
  refine a_aload_n dX12_operand_46 rfl rfl ?_
  refine iv_X12_205 dX12_operand_47 (Nat.le_of_ble_eq_true rfl) (MtX_mono h (fun r m1 hq => ?_))
  obtain ⟨x3, rfl, h2⟩ := hq
  refine ⟨x3, rfl, ?_⟩
  refine a_if_ne (tgt := 54) dX12_operand_50 (by decide) ⟨fun c4 => ?_, fun c4 => ?_⟩
  · refine a_aload_n dX12_operand_54 rfl rfl ?_
    refine iv_X12_209 dX12_operand_55 (Nat.le_of_ble_eq_true rfl) (MtX_mono (h2.1 c4) (fun r m5 hq => ?_))
    obtain ⟨rfl, h6⟩ := hq
    refine ⟨rfl, ?_⟩
    refine a_aload_n dX12_operand_58 rfl rfl ?_
    refine a_dup dX12_operand_59 rfl ?_
    refine gf_X12_187 (x := m5 12 0 17) rfl dX12_operand_60 ?_
    refine a_iconst (k := 1) dX12_operand_63 (n_lit (by decide)) ?_
    refine a_isub dX12_operand_64 ?_
    refine pf_X12_187 dX12_operand_65 ?_
    refine a_aload_n dX12_operand_68 rfl rfl ?_
    refine a_iload_n dX12_operand_69 rfl rfl ?_
    refine a_bipush (k := 33) dX12_operand_70 (by decide) (n_lit (by decide)) ?_
    refine a_icmp_ne (tgt := 79) dX12_operand_72 (by decide) ⟨fun c7 => ?_, fun c7 => ?_⟩
    · refine a_iconst (k := 4) dX12_operand_79 (n_lit (by decide)) ?_
      refine a_iconst (k := 0) dX12_operand_80 (n_lit (by decide)) ?_
      refine iv_X12_197 dX12_operand_81 (Nat.le_of_ble_eq_true rfl) (MtX_mono (h6.1 c7) (fun r m8 hq => ?_))
      obtain ⟨rfl, h9⟩ := hq
      refine ⟨rfl, ?_⟩
      refine a_goto (tgt := 154) dX12_operand_84 (by decide) ?_
      exact a_vret dX12_operand_154 h9
    · refine a_iconst (k := 3) dX12_operand_75 (n_lit (by decide)) ?_
      refine a_goto (tgt := 80) dX12_operand_76 (by decide) ?_
      refine a_iconst (k := 0) dX12_operand_80 (n_lit (by decide)) ?_
      refine iv_X12_197 dX12_operand_81 (Nat.le_of_ble_eq_true rfl) (MtX_mono (h6.2 c7) (fun r m10 hq => ?_))
      obtain ⟨rfl, h11⟩ := hq
      refine ⟨rfl, ?_⟩
      refine a_goto (tgt := 154) dX12_operand_84 (by decide) ?_
      exact a_vret dX12_operand_154 h11
  · exact a_vret dX12_operand_53 (h2.2 c4)
set_option maxRecDepth 10000 in
theorem sg_X12_product_0 {d : Nat} {sx : Option (List Int)}  (mem : AMem) (Q : Option AV → AMem → Prop) (h : MtX yX12_operand cX12_operand 2 none d [vr 12 0] mem (fun r m1 => r = none ∧ (Y cX12_product 2 RX12 (d + 1) sx 4 [some (vr 12 0), none] [] m1 Q))) : Y cX12_product 2 RX12 (d + 1) sx 0 [some (vr 12 0), none] [] mem Q := by
  refine a_aload_n dX12_product_0 rfl rfl ?_
  refine iv_X12_209 dX12_product_1 (Nat.le_of_ble_eq_true rfl) (MtX_mono h (fun r m1 hq => ?_))
  obtain ⟨rfl, h2⟩ := hq
  refine ⟨rfl, ?_⟩
  exact h2
set_option maxRecDepth 10000 in
theorem sg_X12_product_4 {d : Nat} {sx : Option (List Int)}  (mem : AMem) (Q : Option AV → AMem → Prop) (h : ((0 : Int) ≤ (mem 12 0 16) → (Q none mem)) ∧ (¬ (0 : Int) ≤ (mem 12 0 16) → (MtX yX12_look cX12_look 1 (some .int) d [vr 12 0] mem (fun r m2 => ∃ x4 : Int, r = some (vi x4) ∧ ((x4 = (42 : Int) → (Y cX12_product 2 RX12 (d + 1) sx 38 [some (vr 12 0), none] [] m2 Q)) ∧ (¬ x4 = (42 : Int) → (MtX yX12_look cX12_look 1 (some .int) d [vr 12 0] m2 (fun r m6 => ∃ x8 : Int, r = some (vi x8) ∧ ((x8 = (47 : Int) → (Y cX12_product 2 RX12 (d + 1) sx 38 [some (vr 12 0), none] [] m6 Q)) ∧ (¬ x8 = (47 : Int) → (MtX yX12_look cX12_look 1 (some .int) d [vr 12 0] m6 (fun r m10 => ∃ x12 : Int, r = some (vi x12) ∧ ((x12 ≠ (37 : Int) → (Q none m10)) ∧ (x12 = (37 : Int) → (Y cX12_product 2 RX12 (d + 1) sx 38 [some (vr 12 0), none] [] m10 Q))))))))))))))) : Y cX12_product 2 RX12 (d + 1) sx 4 [some (vr 12 0), none] [] mem Q := by
  refine a_aload_n dX12_product_4 rfl rfl ?_
  refine gf_X12_181 (x := mem 12 0 16) rfl dX12_product_5 ?_
  refine a_if_ge (tgt := 66) dX12_product_8 (by decide) ⟨fun c1 => ?_, fun c1 => ?_⟩
  · exact a_vret dX12_product_66 (h.1 c1)
  · refine a_aload_n dX12_product_11 rfl rfl ?_
    refine iv_X12_193 dX12_product_12 (Nat.le_of_ble_eq_true rfl) (MtX_mono (h.2 c1) (fun r m2 hq => ?_))
    obtain ⟨x4, rfl, h3⟩ := hq
    refine ⟨x4, rfl, ?_⟩
    refine a_bipush (k := 42) dX12_product_15 (by decide) (n_lit (by decide)) ?_
    refine a_icmp_eq (tgt := 38) dX12_product_17 (by decide) ⟨fun c5 => ?_, fun c5 => ?_⟩
    · exact (h3.1 c5)
    · refine a_aload_n dX12_product_20 rfl rfl ?_
      refine iv_X12_193 dX12_product_21 (Nat.le_of_ble_eq_true rfl) (MtX_mono (h3.2 c5) (fun r m6 hq => ?_))
      obtain ⟨x8, rfl, h7⟩ := hq
      refine ⟨x8, rfl, ?_⟩
      refine a_bipush (k := 47) dX12_product_24 (by decide) (n_lit (by decide)) ?_
      refine a_icmp_eq (tgt := 38) dX12_product_26 (by decide) ⟨fun c9 => ?_, fun c9 => ?_⟩
      · exact (h7.1 c9)
      · refine a_aload_n dX12_product_29 rfl rfl ?_
        refine iv_X12_193 dX12_product_30 (Nat.le_of_ble_eq_true rfl) (MtX_mono (h7.2 c9) (fun r m10 hq => ?_))
        obtain ⟨x12, rfl, h11⟩ := hq
        refine ⟨x12, rfl, ?_⟩
        refine a_bipush (k := 37) dX12_product_33 (by decide) (n_lit (by decide)) ?_
        refine a_icmp_ne (tgt := 66) dX12_product_35 (by decide) ⟨fun c13 => ?_, fun c13 => ?_⟩
        · exact a_vret dX12_product_66 (h11.1 c13)
        · exact (h11.2 c13)
set_option maxRecDepth 10000 in
theorem sg_X12_product_38 {d : Nat} {sx : Option (List Int)}  (mem : AMem) (Q : Option AV → AMem → Prop) (h : MtX yX12_look cX12_look 1 (some .int) d [vr 12 0] mem (fun r m1 => ∃ x3 : Int, r = some (vi x3) ∧ (MtX yX12_operand cX12_operand 2 none d [vr 12 0] (upM m1 12 0 15 (w32 ((m1 12 0 15) + 1))) (fun r m4 => r = none ∧ (MtX yX12_addStep cX12_addStep 3 none d [vr 12 0, vi x3, vi 0] m4 (fun r m6 => r = none ∧ (Y cX12_product 2 RX12 (d + 1) sx 4 [some (vr 12 0), some (vi x3)] [] m6 Q))))))) : Y cX12_product 2 RX12 (d + 1) sx 38 [some (vr 12 0), none] [] mem Q := by
  refine a_aload_n dX12_product_38 rfl rfl ?_
  refine iv_X12_193 dX12_product_39 (Nat.le_of_ble_eq_true rfl) (MtX_mono h (fun r m1 hq => ?_))
  obtain ⟨x3, rfl, h2⟩ := hq
  refine ⟨x3, rfl, ?_⟩
  refine a_istore_n dX12_product_42 rfl (by decide) rfl ?_
  refine a_aload_n dX12_product_43 rfl rfl ?_
  refine a_dup dX12_product_44 rfl ?_
  refine gf_X12_178 (x := m1 12 0 15) rfl dX12_product_45 ?_
  refine a_iconst (k := 1) dX12_product_48 (n_lit (by decide)) ?_
  refine a_iadd dX12_product_49 ?_
  refine pf_X12_178 dX12_product_50 ?_
  refine a_aload_n dX12_product_53 rfl rfl ?_
  refine iv_X12_209 dX12_product_54 (Nat.le_of_ble_eq_true rfl) (MtX_mono h2 (fun r m4 hq => ?_))
  obtain ⟨rfl, h5⟩ := hq
  refine ⟨rfl, ?_⟩
  refine a_aload_n dX12_product_57 rfl rfl ?_
  refine a_iload_n dX12_product_58 rfl rfl ?_
  refine a_iconst (k := 0) dX12_product_59 (n_lit (by decide)) ?_
  refine iv_X12_197 dX12_product_60 (Nat.le_of_ble_eq_true rfl) (MtX_mono h5 (fun r m6 hq => ?_))
  obtain ⟨rfl, h7⟩ := hq
  refine ⟨rfl, ?_⟩
  refine a_goto (tgt := 4) dX12_product_63 (by decide) ?_
  exact h7
set_option maxRecDepth 10000 in
theorem sg_X12_sum_0 {d : Nat} {sx : Option (List Int)}  (mem : AMem) (Q : Option AV → AMem → Prop) (h : MtX yX12_product cX12_product 2 none d [vr 12 0] mem (fun r m1 => r = none ∧ (Y cX12_sum 2 RX12 (d + 1) sx 4 [some (vr 12 0), none] [] m1 Q))) : Y cX12_sum 2 RX12 (d + 1) sx 0 [some (vr 12 0), none] [] mem Q := by
  refine a_aload_n dX12_sum_0 rfl rfl ?_
  refine iv_X12_218 dX12_sum_1 (Nat.le_of_ble_eq_true rfl) (MtX_mono h (fun r m1 hq => ?_))
  obtain ⟨rfl, h2⟩ := hq
  refine ⟨rfl, ?_⟩
  exact h2
set_option maxRecDepth 10000 in
theorem sg_X12_sum_4 {d : Nat} {sx : Option (List Int)}  (mem : AMem) (Q : Option AV → AMem → Prop) (h : ((0 : Int) ≤ (mem 12 0 16) → (Q none mem)) ∧ (¬ (0 : Int) ≤ (mem 12 0 16) → (MtX yX12_look cX12_look 1 (some .int) d [vr 12 0] mem (fun r m2 => ∃ x4 : Int, r = some (vi x4) ∧ ((x4 = (43 : Int) → (Y cX12_sum 2 RX12 (d + 1) sx 29 [some (vr 12 0), none] [] m2 Q)) ∧ (¬ x4 = (43 : Int) → (MtX yX12_look cX12_look 1 (some .int) d [vr 12 0] m2 (fun r m6 => ∃ x8 : Int, r = some (vi x8) ∧ ((x8 ≠ (45 : Int) → (Q none m6)) ∧ (x8 = (45 : Int) → (Y cX12_sum 2 RX12 (d + 1) sx 29 [some (vr 12 0), none] [] m6 Q))))))))))) : Y cX12_sum 2 RX12 (d + 1) sx 4 [some (vr 12 0), none] [] mem Q := by
  refine a_aload_n dX12_sum_4 rfl rfl ?_
  refine gf_X12_181 (x := mem 12 0 16) rfl dX12_sum_5 ?_
  refine a_if_ge (tgt := 57) dX12_sum_8 (by decide) ⟨fun c1 => ?_, fun c1 => ?_⟩
  · exact a_vret dX12_sum_57 (h.1 c1)
  · refine a_aload_n dX12_sum_11 rfl rfl ?_
    refine iv_X12_193 dX12_sum_12 (Nat.le_of_ble_eq_true rfl) (MtX_mono (h.2 c1) (fun r m2 hq => ?_))
    obtain ⟨x4, rfl, h3⟩ := hq
    refine ⟨x4, rfl, ?_⟩
    refine a_bipush (k := 43) dX12_sum_15 (by decide) (n_lit (by decide)) ?_
    refine a_icmp_eq (tgt := 29) dX12_sum_17 (by decide) ⟨fun c5 => ?_, fun c5 => ?_⟩
    · exact (h3.1 c5)
    · refine a_aload_n dX12_sum_20 rfl rfl ?_
      refine iv_X12_193 dX12_sum_21 (Nat.le_of_ble_eq_true rfl) (MtX_mono (h3.2 c5) (fun r m6 hq => ?_))
      obtain ⟨x8, rfl, h7⟩ := hq
      refine ⟨x8, rfl, ?_⟩
      refine a_bipush (k := 45) dX12_sum_24 (by decide) (n_lit (by decide)) ?_
      refine a_icmp_ne (tgt := 57) dX12_sum_26 (by decide) ⟨fun c9 => ?_, fun c9 => ?_⟩
      · exact a_vret dX12_sum_57 (h7.1 c9)
      · exact (h7.2 c9)
set_option maxRecDepth 10000 in
theorem sg_X12_sum_29 {d : Nat} {sx : Option (List Int)}  (mem : AMem) (Q : Option AV → AMem → Prop) (h : MtX yX12_look cX12_look 1 (some .int) d [vr 12 0] mem (fun r m1 => ∃ x3 : Int, r = some (vi x3) ∧ (MtX yX12_product cX12_product 2 none d [vr 12 0] (upM m1 12 0 15 (w32 ((m1 12 0 15) + 1))) (fun r m4 => r = none ∧ (MtX yX12_addStep cX12_addStep 3 none d [vr 12 0, vi x3, vi 0] m4 (fun r m6 => r = none ∧ (Y cX12_sum 2 RX12 (d + 1) sx 4 [some (vr 12 0), some (vi x3)] [] m6 Q))))))) : Y cX12_sum 2 RX12 (d + 1) sx 29 [some (vr 12 0), none] [] mem Q := by
  refine a_aload_n dX12_sum_29 rfl rfl ?_
  refine iv_X12_193 dX12_sum_30 (Nat.le_of_ble_eq_true rfl) (MtX_mono h (fun r m1 hq => ?_))
  obtain ⟨x3, rfl, h2⟩ := hq
  refine ⟨x3, rfl, ?_⟩
  refine a_istore_n dX12_sum_33 rfl (by decide) rfl ?_
  refine a_aload_n dX12_sum_34 rfl rfl ?_
  refine a_dup dX12_sum_35 rfl ?_
  refine gf_X12_178 (x := m1 12 0 15) rfl dX12_sum_36 ?_
  refine a_iconst (k := 1) dX12_sum_39 (n_lit (by decide)) ?_
  refine a_iadd dX12_sum_40 ?_
  refine pf_X12_178 dX12_sum_41 ?_
  refine a_aload_n dX12_sum_44 rfl rfl ?_
  refine iv_X12_218 dX12_sum_45 (Nat.le_of_ble_eq_true rfl) (MtX_mono h2 (fun r m4 hq => ?_))
  obtain ⟨rfl, h5⟩ := hq
  refine ⟨rfl, ?_⟩
  refine a_aload_n dX12_sum_48 rfl rfl ?_
  refine a_iload_n dX12_sum_49 rfl rfl ?_
  refine a_iconst (k := 0) dX12_sum_50 (n_lit (by decide)) ?_
  refine iv_X12_197 dX12_sum_51 (Nat.le_of_ble_eq_true rfl) (MtX_mono h5 (fun r m6 hq => ?_))
  obtain ⟨rfl, h7⟩ := hq
  refine ⟨rfl, ?_⟩
  refine a_goto (tgt := 4) dX12_sum_54 (by decide) ?_
  exact h7
set_option maxRecDepth 10000 in
theorem sg_X12_compared_0 {d : Nat} {sx : Option (List Int)}  (mem : AMem) (Q : Option AV → AMem → Prop) (h : MtX yX12_sum cX12_sum 2 none d [vr 12 0] mem (fun r m1 => r = none ∧ (MtX yX12_look cX12_look 1 (some .int) d [vr 12 0] m1 (fun r m3 => ∃ x5 : Int, r = some (vi x5) ∧ (((0 : Int) ≤ (m3 12 0 16) → (Q none m3)) ∧ (¬ (0 : Int) ≤ (m3 12 0 16) → ((x5 = (60 : Int) → (MtX yX12_sum cX12_sum 2 none d [vr 12 0] (upM m3 12 0 15 (w32 ((m3 12 0 15) + 1))) (fun r m8 => r = none ∧ (MtX yX12_addStep cX12_addStep 3 none d [vr 12 0, vi x5, vi 0] m8 (fun r m10 => r = none ∧ (Q none m10)))))) ∧ (¬ x5 = (60 : Int) → ((x5 = (61 : Int) → (MtX yX12_sum cX12_sum 2 none d [vr 12 0] (upM m3 12 0 15 (w32 ((m3 12 0 15) + 1))) (fun r m13 => r = none ∧ (MtX yX12_addStep cX12_addStep 3 none d [vr 12 0, vi x5, vi 0] m13 (fun r m15 => r = none ∧ (Q none m15)))))) ∧ (¬ x5 = (61 : Int) → ((x5 = (62 : Int) → (MtX yX12_sum cX12_sum 2 none d [vr 12 0] (upM m3 12 0 15 (w32 ((m3 12 0 15) + 1))) (fun r m18 => r = none ∧ (MtX yX12_addStep cX12_addStep 3 none d [vr 12 0, vi x5, vi 0] m18 (fun r m20 => r = none ∧ (Q none m20)))))) ∧ (¬ x5 = (62 : Int) → (Q none m3))))))))))))) : Y cX12_compared 2 RX12 (d + 1) sx 0 [some (vr 12 0), none] [] mem Q := by
  refine a_aload_n dX12_compared_0 rfl rfl ?_
  refine iv_X12_221 dX12_compared_1 (Nat.le_of_ble_eq_true rfl) (MtX_mono h (fun r m1 hq => ?_))
  obtain ⟨rfl, h2⟩ := hq
  refine ⟨rfl, ?_⟩
  refine a_aload_n dX12_compared_4 rfl rfl ?_
  refine iv_X12_193 dX12_compared_5 (Nat.le_of_ble_eq_true rfl) (MtX_mono h2 (fun r m3 hq => ?_))
  obtain ⟨x5, rfl, h4⟩ := hq
  refine ⟨x5, rfl, ?_⟩
  refine a_istore_n dX12_compared_8 rfl (by decide) rfl ?_
  refine a_aload_n dX12_compared_9 rfl rfl ?_
  refine gf_X12_181 (x := m3 12 0 16) rfl dX12_compared_10 ?_
  refine a_if_ge (tgt := 34) dX12_compared_13 (by decide) ⟨fun c6 => ?_, fun c6 => ?_⟩
  · exact a_vret dX12_compared_34 (h4.1 c6)
  · refine a_iload_n dX12_compared_16 rfl rfl ?_
    refine a_bipush (k := 60) dX12_compared_17 (by decide) (n_lit (by decide)) ?_
    refine a_icmp_eq (tgt := 35) dX12_compared_19 (by decide) ⟨fun c7 => ?_, fun c7 => ?_⟩
    · refine a_aload_n dX12_compared_35 rfl rfl ?_
      refine a_dup dX12_compared_36 rfl ?_
      refine gf_X12_178 (x := m3 12 0 15) rfl dX12_compared_37 ?_
      refine a_iconst (k := 1) dX12_compared_40 (n_lit (by decide)) ?_
      refine a_iadd dX12_compared_41 ?_
      refine pf_X12_178 dX12_compared_42 ?_
      refine a_aload_n dX12_compared_45 rfl rfl ?_
      refine iv_X12_221 dX12_compared_46 (Nat.le_of_ble_eq_true rfl) (MtX_mono ((h4.2 c6).1 c7) (fun r m8 hq => ?_))
      obtain ⟨rfl, h9⟩ := hq
      refine ⟨rfl, ?_⟩
      refine a_aload_n dX12_compared_49 rfl rfl ?_
      refine a_iload_n dX12_compared_50 rfl rfl ?_
      refine a_iconst (k := 0) dX12_compared_51 (n_lit (by decide)) ?_
      refine iv_X12_197 dX12_compared_52 (Nat.le_of_ble_eq_true rfl) (MtX_mono h9 (fun r m10 hq => ?_))
      obtain ⟨rfl, h11⟩ := hq
      refine ⟨rfl, ?_⟩
      exact a_vret dX12_compared_55 h11
    · refine a_iload_n dX12_compared_22 rfl rfl ?_
      refine a_bipush (k := 61) dX12_compared_23 (by decide) (n_lit (by decide)) ?_
      refine a_icmp_eq (tgt := 35) dX12_compared_25 (by decide) ⟨fun c12 => ?_, fun c12 => ?_⟩
      · refine a_aload_n dX12_compared_35 rfl rfl ?_
        refine a_dup dX12_compared_36 rfl ?_
        refine gf_X12_178 (x := m3 12 0 15) rfl dX12_compared_37 ?_
        refine a_iconst (k := 1) dX12_compared_40 (n_lit (by decide)) ?_
        refine a_iadd dX12_compared_41 ?_
        refine pf_X12_178 dX12_compared_42 ?_
        refine a_aload_n dX12_compared_45 rfl rfl ?_
        refine iv_X12_221 dX12_compared_46 (Nat.le_of_ble_eq_true rfl) (MtX_mono (((h4.2 c6).2 c7).1 c12) (fun r m13 hq => ?_))
        obtain ⟨rfl, h14⟩ := hq
        refine ⟨rfl, ?_⟩
        refine a_aload_n dX12_compared_49 rfl rfl ?_
        refine a_iload_n dX12_compared_50 rfl rfl ?_
        refine a_iconst (k := 0) dX12_compared_51 (n_lit (by decide)) ?_
        refine iv_X12_197 dX12_compared_52 (Nat.le_of_ble_eq_true rfl) (MtX_mono h14 (fun r m15 hq => ?_))
        obtain ⟨rfl, h16⟩ := hq
        refine ⟨rfl, ?_⟩
        exact a_vret dX12_compared_55 h16
      · refine a_iload_n dX12_compared_28 rfl rfl ?_
        refine a_bipush (k := 62) dX12_compared_29 (by decide) (n_lit (by decide)) ?_
        refine a_icmp_eq (tgt := 35) dX12_compared_31 (by decide) ⟨fun c17 => ?_, fun c17 => ?_⟩
        · refine a_aload_n dX12_compared_35 rfl rfl ?_
          refine a_dup dX12_compared_36 rfl ?_
          refine gf_X12_178 (x := m3 12 0 15) rfl dX12_compared_37 ?_
          refine a_iconst (k := 1) dX12_compared_40 (n_lit (by decide)) ?_
          refine a_iadd dX12_compared_41 ?_
          refine pf_X12_178 dX12_compared_42 ?_
          refine a_aload_n dX12_compared_45 rfl rfl ?_
          refine iv_X12_221 dX12_compared_46 (Nat.le_of_ble_eq_true rfl) (MtX_mono ((((h4.2 c6).2 c7).2 c12).1 c17) (fun r m18 hq => ?_))
          obtain ⟨rfl, h19⟩ := hq
          refine ⟨rfl, ?_⟩
          refine a_aload_n dX12_compared_49 rfl rfl ?_
          refine a_iload_n dX12_compared_50 rfl rfl ?_
          refine a_iconst (k := 0) dX12_compared_51 (n_lit (by decide)) ?_
          refine iv_X12_197 dX12_compared_52 (Nat.le_of_ble_eq_true rfl) (MtX_mono h19 (fun r m20 hq => ?_))
          obtain ⟨rfl, h21⟩ := hq
          refine ⟨rfl, ?_⟩
          exact a_vret dX12_compared_55 h21
        · exact a_vret dX12_compared_34 ((((h4.2 c6).2 c7).2 c12).2 c17)
set_option maxRecDepth 10000 in
theorem sg_X12_both_0 {d : Nat} {sx : Option (List Int)}  (mem : AMem) (Q : Option AV → AMem → Prop) (h : MtX yX12_compared cX12_compared 2 none d [vr 12 0] mem (fun r m1 => r = none ∧ (Y cX12_both 1 RX12 (d + 1) sx 4 [some (vr 12 0)] [] m1 Q))) : Y cX12_both 1 RX12 (d + 1) sx 0 [some (vr 12 0)] [] mem Q := by
  refine a_aload_n dX12_both_0 rfl rfl ?_
  refine iv_X12_224 dX12_both_1 (Nat.le_of_ble_eq_true rfl) (MtX_mono h (fun r m1 hq => ?_))
  obtain ⟨rfl, h2⟩ := hq
  refine ⟨rfl, ?_⟩
  exact h2
set_option maxRecDepth 10000 in
theorem sg_X12_both_4 {d : Nat} {sx : Option (List Int)}  (mem : AMem) (Q : Option AV → AMem → Prop) (h : ((0 : Int) ≤ (mem 12 0 16) → (Q none mem)) ∧ (¬ (0 : Int) ≤ (mem 12 0 16) → (MtX yX12_look cX12_look 1 (some .int) d [vr 12 0] mem (fun r m2 => ∃ x4 : Int, r = some (vi x4) ∧ ((x4 ≠ (38 : Int) → (Q none m2)) ∧ (x4 = (38 : Int) → (MtX yX12_compared cX12_compared 2 none d [vr 12 0] (upM m2 12 0 15 (w32 ((m2 12 0 15) + 1))) (fun r m6 => r = none ∧ (MtX yX12_addStep cX12_addStep 3 none d [vr 12 0, vi 38, vi 0] m6 (fun r m8 => r = none ∧ (Y cX12_both 1 RX12 (d + 1) sx 4 [some (vr 12 0)] [] m8 Q))))))))))) : Y cX12_both 1 RX12 (d + 1) sx 4 [some (vr 12 0)] [] mem Q := by
  refine a_aload_n dX12_both_4 rfl rfl ?_
  refine gf_X12_181 (x := mem 12 0 16) rfl dX12_both_5 ?_
  refine a_if_ge (tgt := 44) dX12_both_8 (by decide) ⟨fun c1 => ?_, fun c1 => ?_⟩
  · exact a_vret dX12_both_44 (h.1 c1)
  · refine a_aload_n dX12_both_11 rfl rfl ?_
    refine iv_X12_193 dX12_both_12 (Nat.le_of_ble_eq_true rfl) (MtX_mono (h.2 c1) (fun r m2 hq => ?_))
    obtain ⟨x4, rfl, h3⟩ := hq
    refine ⟨x4, rfl, ?_⟩
    refine a_bipush (k := 38) dX12_both_15 (by decide) (n_lit (by decide)) ?_
    refine a_icmp_ne (tgt := 44) dX12_both_17 (by decide) ⟨fun c5 => ?_, fun c5 => ?_⟩
    · exact a_vret dX12_both_44 (h3.1 c5)
    · refine a_aload_n dX12_both_20 rfl rfl ?_
      refine a_dup dX12_both_21 rfl ?_
      refine gf_X12_178 (x := m2 12 0 15) rfl dX12_both_22 ?_
      refine a_iconst (k := 1) dX12_both_25 (n_lit (by decide)) ?_
      refine a_iadd dX12_both_26 ?_
      refine pf_X12_178 dX12_both_27 ?_
      refine a_aload_n dX12_both_30 rfl rfl ?_
      refine iv_X12_224 dX12_both_31 (Nat.le_of_ble_eq_true rfl) (MtX_mono (h3.2 c5) (fun r m6 hq => ?_))
      obtain ⟨rfl, h7⟩ := hq
      refine ⟨rfl, ?_⟩
      refine a_aload_n dX12_both_34 rfl rfl ?_
      refine a_bipush (k := 38) dX12_both_35 (by decide) (n_lit (by decide)) ?_
      refine a_iconst (k := 0) dX12_both_37 (n_lit (by decide)) ?_
      refine iv_X12_197 dX12_both_38 (Nat.le_of_ble_eq_true rfl) (MtX_mono h7 (fun r m8 hq => ?_))
      obtain ⟨rfl, h9⟩ := hq
      refine ⟨rfl, ?_⟩
      refine a_goto (tgt := 4) dX12_both_41 (by decide) ?_
      exact h9
set_option maxRecDepth 10000 in
theorem sg_X12_either_0 {d : Nat} {sx : Option (List Int)}  (mem : AMem) (Q : Option AV → AMem → Prop) (h : MtX yX12_both cX12_both 1 none d [vr 12 0] mem (fun r m1 => r = none ∧ (Y cX12_either 1 RX12 (d + 1) sx 4 [some (vr 12 0)] [] m1 Q))) : Y cX12_either 1 RX12 (d + 1) sx 0 [some (vr 12 0)] [] mem Q := by
  refine a_aload_n dX12_either_0 rfl rfl ?_
  refine iv_X12_227 dX12_either_1 (Nat.le_of_ble_eq_true rfl) (MtX_mono h (fun r m1 hq => ?_))
  obtain ⟨rfl, h2⟩ := hq
  refine ⟨rfl, ?_⟩
  exact h2
set_option maxRecDepth 10000 in
theorem sg_X12_either_4 {d : Nat} {sx : Option (List Int)}  (mem : AMem) (Q : Option AV → AMem → Prop) (h : ((0 : Int) ≤ (mem 12 0 16) → (Q none mem)) ∧ (¬ (0 : Int) ≤ (mem 12 0 16) → (MtX yX12_look cX12_look 1 (some .int) d [vr 12 0] mem (fun r m2 => ∃ x4 : Int, r = some (vi x4) ∧ ((x4 ≠ (124 : Int) → (Q none m2)) ∧ (x4 = (124 : Int) → (MtX yX12_both cX12_both 1 none d [vr 12 0] (upM m2 12 0 15 (w32 ((m2 12 0 15) + 1))) (fun r m6 => r = none ∧ (MtX yX12_addStep cX12_addStep 3 none d [vr 12 0, vi 124, vi 0] m6 (fun r m8 => r = none ∧ (Y cX12_either 1 RX12 (d + 1) sx 4 [some (vr 12 0)] [] m8 Q))))))))))) : Y cX12_either 1 RX12 (d + 1) sx 4 [some (vr 12 0)] [] mem Q := by
  refine a_aload_n dX12_either_4 rfl rfl ?_
  refine gf_X12_181 (x := mem 12 0 16) rfl dX12_either_5 ?_
  refine a_if_ge (tgt := 44) dX12_either_8 (by decide) ⟨fun c1 => ?_, fun c1 => ?_⟩
  · exact a_vret dX12_either_44 (h.1 c1)
  · refine a_aload_n dX12_either_11 rfl rfl ?_
    refine iv_X12_193 dX12_either_12 (Nat.le_of_ble_eq_true rfl) (MtX_mono (h.2 c1) (fun r m2 hq => ?_))
    obtain ⟨x4, rfl, h3⟩ := hq
    refine ⟨x4, rfl, ?_⟩
    refine a_bipush (k := 124) dX12_either_15 (by decide) (n_lit (by decide)) ?_
    refine a_icmp_ne (tgt := 44) dX12_either_17 (by decide) ⟨fun c5 => ?_, fun c5 => ?_⟩
    · exact a_vret dX12_either_44 (h3.1 c5)
    · refine a_aload_n dX12_either_20 rfl rfl ?_
      refine a_dup dX12_either_21 rfl ?_
      refine gf_X12_178 (x := m2 12 0 15) rfl dX12_either_22 ?_
      refine a_iconst (k := 1) dX12_either_25 (n_lit (by decide)) ?_
      refine a_iadd dX12_either_26 ?_
      refine pf_X12_178 dX12_either_27 ?_
      refine a_aload_n dX12_either_30 rfl rfl ?_
      refine iv_X12_227 dX12_either_31 (Nat.le_of_ble_eq_true rfl) (MtX_mono (h3.2 c5) (fun r m6 hq => ?_))
      obtain ⟨rfl, h7⟩ := hq
      refine ⟨rfl, ?_⟩
      refine a_aload_n dX12_either_34 rfl rfl ?_
      refine a_bipush (k := 124) dX12_either_35 (by decide) (n_lit (by decide)) ?_
      refine a_iconst (k := 0) dX12_either_37 (n_lit (by decide)) ?_
      refine iv_X12_197 dX12_either_38 (Nat.le_of_ble_eq_true rfl) (MtX_mono h7 (fun r m8 hq => ?_))
      obtain ⟨rfl, h9⟩ := hq
      refine ⟨rfl, ?_⟩
      refine a_goto (tgt := 4) dX12_either_41 (by decide) ?_
      exact h9
set_option maxRecDepth 10000 in
theorem sg_X12_oneLine_0 {d : Nat} {sx : Option (List Int)}  (mem : AMem) (Q : Option AV → AMem → Prop) (h : (0 ≤ (1 : Int) ∧ (1 : Int) < 2) ∧ ((0 ≤ (w32 (61 + (mem 1321 0 1))) ∧ (w32 (61 + (mem 1321 0 1))) < 122) ∧ (MtX yX12_either cX12_either 1 none d [vr 12 0] (upM mem 1322 0 (w32 (61 + (mem 1321 0 1))) (s16 (s16 (mem 12 0 18)))) (fun r m1 => r = none ∧ (((0 : Int) ≤ (m1 12 0 16) → (Y cX12_oneLine 2 RX12 (d + 1) sx 66 [some (vr 12 0), some (vi (w32 (61 + (mem 1321 0 1))))] [] m1 Q)) ∧ (¬ (0 : Int) ≤ (m1 12 0 16) → (MtX yX12_look cX12_look 1 (some .int) d [vr 12 0] m1 (fun r m4 => ∃ x6 : Int, r = some (vi x6) ∧ ((x6 ≠ (63 : Int) → (Y cX12_oneLine 2 RX12 (d + 1) sx 66 [some (vr 12 0), some (vi (w32 (61 + (mem 1321 0 1))))] [] m4 Q)) ∧ (x6 = (63 : Int) → ((0 ≤ (w32 (61 + (mem 1321 0 1))) ∧ (w32 (61 + (mem 1321 0 1))) < 122) ∧ (MtX yX12_either cX12_either 1 none d [vr 12 0] (upM (upM m4 12 0 15 (w32 ((m4 12 0 15) + 1))) 1322 0 (w32 (61 + (mem 1321 0 1))) (s16 (s16 (m4 12 0 18)))) (fun r m8 => r = none ∧ (Y cX12_oneLine 2 RX12 (d + 1) sx 66 [some (vr 12 0), some (vi (w32 (61 + (mem 1321 0 1))))] [] m8 Q)))))))))))))) : Y cX12_oneLine 2 RX12 (d + 1) sx 0 [some (vr 12 0), none] [] mem Q := by
  refine a_bipush (k := 61) dX12_oneLine_0 (by decide) (n_lit (by decide)) ?_
  refine a_aload_n dX12_oneLine_2 rfl rfl ?_
  refine gf_X12_47 dX12_oneLine_3 ?_
  refine a_iconst (k := 1) dX12_oneLine_6 (n_lit (by decide)) ?_
  refine a_iald rfl rfl (by decide) rfl dX12_oneLine_7 ⟨h.1, ?_⟩
  refine a_iadd dX12_oneLine_8 ?_
  refine a_istore_n dX12_oneLine_9 rfl (by decide) rfl ?_
  refine a_aload_n dX12_oneLine_10 rfl rfl ?_
  refine gf_X12_50 dX12_oneLine_11 ?_
  refine a_iload_n dX12_oneLine_14 rfl rfl ?_
  refine a_aload_n dX12_oneLine_15 rfl rfl ?_
  refine gf_X12_184 (x := mem 12 0 18) rfl dX12_oneLine_16 ?_
  refine a_i2s dX12_oneLine_19 ?_
  refine a_sast rfl rfl (by decide) rfl dX12_oneLine_20 ⟨h.2.1, ?_⟩
  refine a_aload_n dX12_oneLine_21 rfl rfl ?_
  refine iv_X12_212 dX12_oneLine_22 (Nat.le_of_ble_eq_true rfl) (MtX_mono h.2.2 (fun r m1 hq => ?_))
  obtain ⟨rfl, h2⟩ := hq
  refine ⟨rfl, ?_⟩
  refine a_aload_n dX12_oneLine_25 rfl rfl ?_
  refine gf_X12_181 (x := m1 12 0 16) rfl dX12_oneLine_26 ?_
  refine a_if_ge (tgt := 66) dX12_oneLine_29 (by decide) ⟨fun c3 => ?_, fun c3 => ?_⟩
  · exact (h2.1 c3)
  · refine a_aload_n dX12_oneLine_32 rfl rfl ?_
    refine iv_X12_193 dX12_oneLine_33 (Nat.le_of_ble_eq_true rfl) (MtX_mono (h2.2 c3) (fun r m4 hq => ?_))
    obtain ⟨x6, rfl, h5⟩ := hq
    refine ⟨x6, rfl, ?_⟩
    refine a_bipush (k := 63) dX12_oneLine_36 (by decide) (n_lit (by decide)) ?_
    refine a_icmp_ne (tgt := 66) dX12_oneLine_38 (by decide) ⟨fun c7 => ?_, fun c7 => ?_⟩
    · exact (h5.1 c7)
    · refine a_aload_n dX12_oneLine_41 rfl rfl ?_
      refine a_dup dX12_oneLine_42 rfl ?_
      refine gf_X12_178 (x := m4 12 0 15) rfl dX12_oneLine_43 ?_
      refine a_iconst (k := 1) dX12_oneLine_46 (n_lit (by decide)) ?_
      refine a_iadd dX12_oneLine_47 ?_
      refine pf_X12_178 dX12_oneLine_48 ?_
      refine a_aload_n dX12_oneLine_51 rfl rfl ?_
      refine gf_X12_50 dX12_oneLine_52 ?_
      refine a_iload_n dX12_oneLine_55 rfl rfl ?_
      refine a_aload_n dX12_oneLine_56 rfl rfl ?_
      refine gf_X12_184 (x := m4 12 0 18) rfl dX12_oneLine_57 ?_
      refine a_i2s dX12_oneLine_60 ?_
      refine a_sast rfl rfl (by decide) rfl dX12_oneLine_61 ⟨(h5.2 c7).1, ?_⟩
      refine a_aload_n dX12_oneLine_62 rfl rfl ?_
      refine iv_X12_212 dX12_oneLine_63 (Nat.le_of_ble_eq_true rfl) (MtX_mono (h5.2 c7).2 (fun r m8 hq => ?_))
      obtain ⟨rfl, h9⟩ := hq
      refine ⟨rfl, ?_⟩
      exact h9
set_option maxRecDepth 10000 in
theorem sg_X12_oneLine_66 {d : Nat} {sx : Option (List Int)} (a1 : Int) (mem : AMem) (Q : Option AV → AMem → Prop) (h : (0 ≤ a1 ∧ a1 < 122) ∧ ((0 ≤ (1 : Int) ∧ (1 : Int) < 2) ∧ ((0 ≤ (1 : Int) ∧ (1 : Int) < 2) ∧ (Q none (upM (upM mem 1323 0 a1 (s16 (s16 (mem 12 0 18)))) 1321 0 1 (w32 ((mem 1321 0 1) + 1))))))) : Y cX12_oneLine 2 RX12 (d + 1) sx 66 [some (vr 12 0), some (vi a1)] [] mem Q := by
  refine a_aload_n dX12_oneLine_66 rfl rfl ?_
  refine gf_X12_54 dX12_oneLine_67 ?_
  refine a_iload_n dX12_oneLine_70 rfl rfl ?_
  refine a_aload_n dX12_oneLine_71 rfl rfl ?_
  refine gf_X12_184 (x := mem 12 0 18) rfl dX12_oneLine_72 ?_
  refine a_i2s dX12_oneLine_75 ?_
  refine a_sast rfl rfl (by decide) rfl dX12_oneLine_76 ⟨h.1, ?_⟩
  refine a_aload_n dX12_oneLine_77 rfl rfl ?_
  refine gf_X12_47 dX12_oneLine_78 ?_
  refine a_iconst (k := 1) dX12_oneLine_81 (n_lit (by decide)) ?_
  refine a_dup2 dX12_oneLine_82 rfl rfl ?_
  refine a_iald rfl rfl (by decide) rfl dX12_oneLine_83 ⟨h.2.1, ?_⟩
  refine a_iconst (k := 1) dX12_oneLine_84 (n_lit (by decide)) ?_
  refine a_iadd dX12_oneLine_85 ?_
  refine a_iast rfl rfl (by decide) rfl dX12_oneLine_86 ⟨h.2.2.1, ?_⟩
  exact a_vret dX12_oneLine_87 h.2.2.2
set_option maxRecDepth 10000 in
theorem sg_X12_readText_0 {d : Nat} {sx : Option (List Int)} (a1 : Int) (mem : AMem) (Q : Option AV → AMem → Prop) (h : (0 ≤ (1 : Int) ∧ (1 : Int) < 2) ∧ (MtX yX12_oneLine cX12_oneLine 2 none d [vr 12 0] (upM (upM (upM (upM (upM mem 12 0 15 0) 12 0 16 (-1)) 12 0 17 0) 12 0 18 0) 1321 0 1 0) (fun r m1 => r = none ∧ (Y cX12_readText 3 RX12 (d + 1) sx 31 [some (vr 12 0), some (vi a1), none] [] m1 Q)))) : Y cX12_readText 3 RX12 (d + 1) sx 0 [some (vr 12 0), some (vi a1), none] [] mem Q := by
  refine a_aload_n dX12_readText_0 rfl rfl ?_
  refine a_iconst (k := 0) dX12_readText_1 (n_lit (by decide)) ?_
  refine pf_X12_178 dX12_readText_2 ?_
  refine a_aload_n dX12_readText_5 rfl rfl ?_
  refine a_iconst (k := (-1)) dX12_readText_6 (n_lit (by decide)) ?_
  refine pf_X12_181 dX12_readText_7 ?_
  refine a_aload_n dX12_readText_10 rfl rfl ?_
  refine a_iconst (k := 0) dX12_readText_11 (n_lit (by decide)) ?_
  refine pf_X12_187 dX12_readText_12 ?_
  refine a_aload_n dX12_readText_15 rfl rfl ?_
  refine a_iconst (k := 0) dX12_readText_16 (n_lit (by decide)) ?_
  refine pf_X12_184 dX12_readText_17 ?_
  refine a_aload_n dX12_readText_20 rfl rfl ?_
  refine gf_X12_47 dX12_readText_21 ?_
  refine a_iconst (k := 1) dX12_readText_24 (n_lit (by decide)) ?_
  refine a_iconst (k := 0) dX12_readText_25 (n_lit (by decide)) ?_
  refine a_iast rfl rfl (by decide) rfl dX12_readText_26 ⟨h.1, ?_⟩
  refine a_aload_n dX12_readText_27 rfl rfl ?_
  refine iv_X12_230 dX12_readText_28 (Nat.le_of_ble_eq_true rfl) (MtX_mono h.2 (fun r m1 hq => ?_))
  obtain ⟨rfl, h2⟩ := hq
  refine ⟨rfl, ?_⟩
  exact h2
set_option maxRecDepth 10000 in
theorem sg_X12_readText_31 {d : Nat} {sx : Option (List Int)} (a1 : Int) (mem : AMem) (Q : Option AV → AMem → Prop) (h : ((0 : Int) ≤ (mem 12 0 16) → (Y cX12_readText 3 RX12 (d + 1) sx 64 [some (vr 12 0), some (vi a1), none] [] mem Q)) ∧ (¬ (0 : Int) ≤ (mem 12 0 16) → (MtX yX12_look cX12_look 1 (some .int) d [vr 12 0] mem (fun r m2 => ∃ x4 : Int, r = some (vi x4) ∧ ((x4 ≠ (59 : Int) → (Y cX12_readText 3 RX12 (d + 1) sx 64 [some (vr 12 0), some (vi a1), none] [] m2 Q)) ∧ (x4 = (59 : Int) → (MtX yX12_oneLine cX12_oneLine 2 none d [vr 12 0] (upM m2 12 0 15 (w32 ((m2 12 0 15) + 1))) (fun r m6 => r = none ∧ (Y cX12_readText 3 RX12 (d + 1) sx 31 [some (vr 12 0), some (vi a1), none] [] m6 Q))))))))) : Y cX12_readText 3 RX12 (d + 1) sx 31 [some (vr 12 0), some (vi a1), none] [] mem Q := by
  refine a_aload_n dX12_readText_31 rfl rfl ?_
  refine gf_X12_181 (x := mem 12 0 16) rfl dX12_readText_32 ?_
  refine a_if_ge (tgt := 64) dX12_readText_35 (by decide) ⟨fun c1 => ?_, fun c1 => ?_⟩
  · exact (h.1 c1)
  · refine a_aload_n dX12_readText_38 rfl rfl ?_
    refine iv_X12_193 dX12_readText_39 (Nat.le_of_ble_eq_true rfl) (MtX_mono (h.2 c1) (fun r m2 hq => ?_))
    obtain ⟨x4, rfl, h3⟩ := hq
    refine ⟨x4, rfl, ?_⟩
    refine a_bipush (k := 59) dX12_readText_42 (by decide) (n_lit (by decide)) ?_
    refine a_icmp_ne (tgt := 64) dX12_readText_44 (by decide) ⟨fun c5 => ?_, fun c5 => ?_⟩
    · exact (h3.1 c5)
    · refine a_aload_n dX12_readText_47 rfl rfl ?_
      refine a_dup dX12_readText_48 rfl ?_
      refine gf_X12_178 (x := m2 12 0 15) rfl dX12_readText_49 ?_
      refine a_iconst (k := 1) dX12_readText_52 (n_lit (by decide)) ?_
      refine a_iadd dX12_readText_53 ?_
      refine pf_X12_178 dX12_readText_54 ?_
      refine a_aload_n dX12_readText_57 rfl rfl ?_
      refine iv_X12_230 dX12_readText_58 (Nat.le_of_ble_eq_true rfl) (MtX_mono (h3.2 c5) (fun r m6 hq => ?_))
      obtain ⟨rfl, h7⟩ := hq
      refine ⟨rfl, ?_⟩
      refine a_goto (tgt := 31) dX12_readText_61 (by decide) ?_
      exact h7
set_option maxRecDepth 10000 in
theorem sg_X12_readText_64 {d : Nat} {sx : Option (List Int)} (a1 : Int) (mem : AMem) (Q : Option AV → AMem → Prop) (h : ((0 : Int) ≤ (mem 12 0 16) → (((mem 12 0 16) < (0 : Int) → (Y cX12_readText 3 RX12 (d + 1) sx 105 [some (vr 12 0), some (vi a1), some (vi 0)] [] (upM mem 12 0 14 0) Q)) ∧ (¬ (mem 12 0 16) < (0 : Int) → (Q (some (vi (mem 12 0 16))) (upM mem 12 0 14 0))))) ∧ (¬ (0 : Int) ≤ (mem 12 0 16) → (((mem 12 0 14) ≤ (mem 12 0 15) → (((mem 12 0 16) < (0 : Int) → (Y cX12_readText 3 RX12 (d + 1) sx 105 [some (vr 12 0), some (vi a1), some (vi 0)] [] (upM mem 12 0 14 0) Q)) ∧ (¬ (mem 12 0 16) < (0 : Int) → (Q (some (vi (mem 12 0 16))) (upM mem 12 0 14 0))))) ∧ (¬ (mem 12 0 14) ≤ (mem 12 0 15) → (MtX yX12_wrong cX12_wrong 1 none d [vr 12 0] mem (fun r m5 => r = none ∧ (((m5 12 0 16) < (0 : Int) → (Y cX12_readText 3 RX12 (d + 1) sx 105 [some (vr 12 0), some (vi a1), some (vi 0)] [] (upM m5 12 0 14 0) Q)) ∧ (¬ (m5 12 0 16) < (0 : Int) → (Q (some (vi (m5 12 0 16))) (upM m5 12 0 14 0)))))))))) : Y cX12_readText 3 RX12 (d + 1) sx 64 [some (vr 12 0), some (vi a1), none] [] mem Q := by
  refine a_aload_n dX12_readText_64 rfl rfl ?_
  refine gf_X12_181 (x := mem 12 0 16) rfl dX12_readText_65 ?_
  refine a_if_ge (tgt := 86) dX12_readText_68 (by decide) ⟨fun c1 => ?_, fun c1 => ?_⟩
  · refine a_aload_n dX12_readText_86 rfl rfl ?_
    refine a_iconst (k := 0) dX12_readText_87 (n_lit (by decide)) ?_
    refine pf_X12_175 dX12_readText_88 ?_
    refine a_aload_n dX12_readText_91 rfl rfl ?_
    refine gf_X12_181 (x := mem 12 0 16) rfl dX12_readText_92 ?_
    refine a_if_lt (tgt := 103) dX12_readText_95 (by decide) ⟨fun c2 => ?_, fun c2 => ?_⟩
    · refine a_iconst (k := 0) dX12_readText_103 (n_lit (by decide)) ?_
      refine a_istore_n dX12_readText_104 rfl (by decide) rfl ?_
      exact ((h.1 c1).1 c2)
    · refine a_aload_n dX12_readText_98 rfl rfl ?_
      refine gf_X12_181 (x := mem 12 0 16) rfl dX12_readText_99 ?_
      exact a_iret dX12_readText_102 ((h.1 c1).2 c2)
  · refine a_aload_n dX12_readText_71 rfl rfl ?_
    refine gf_X12_178 (x := mem 12 0 15) rfl dX12_readText_72 ?_
    refine a_aload_n dX12_readText_75 rfl rfl ?_
    refine gf_X12_175 (x := mem 12 0 14) rfl dX12_readText_76 ?_
    refine a_icmp_ge (tgt := 86) dX12_readText_79 (by decide) ⟨fun c3 => ?_, fun c3 => ?_⟩
    · refine a_aload_n dX12_readText_86 rfl rfl ?_
      refine a_iconst (k := 0) dX12_readText_87 (n_lit (by decide)) ?_
      refine pf_X12_175 dX12_readText_88 ?_
      refine a_aload_n dX12_readText_91 rfl rfl ?_
      refine gf_X12_181 (x := mem 12 0 16) rfl dX12_readText_92 ?_
      refine a_if_lt (tgt := 103) dX12_readText_95 (by decide) ⟨fun c4 => ?_, fun c4 => ?_⟩
      · refine a_iconst (k := 0) dX12_readText_103 (n_lit (by decide)) ?_
        refine a_istore_n dX12_readText_104 rfl (by decide) rfl ?_
        exact (((h.2 c1).1 c3).1 c4)
      · refine a_aload_n dX12_readText_98 rfl rfl ?_
        refine gf_X12_181 (x := mem 12 0 16) rfl dX12_readText_99 ?_
        exact a_iret dX12_readText_102 (((h.2 c1).1 c3).2 c4)
    · refine a_aload_n dX12_readText_82 rfl rfl ?_
      refine iv_X12_190 dX12_readText_83 (Nat.le_of_ble_eq_true rfl) (MtX_mono ((h.2 c1).2 c3) (fun r m5 hq => ?_))
      obtain ⟨rfl, h6⟩ := hq
      refine ⟨rfl, ?_⟩
      refine a_aload_n dX12_readText_86 rfl rfl ?_
      refine a_iconst (k := 0) dX12_readText_87 (n_lit (by decide)) ?_
      refine pf_X12_175 dX12_readText_88 ?_
      refine a_aload_n dX12_readText_91 rfl rfl ?_
      refine gf_X12_181 (x := m5 12 0 16) rfl dX12_readText_92 ?_
      refine a_if_lt (tgt := 103) dX12_readText_95 (by decide) ⟨fun c7 => ?_, fun c7 => ?_⟩
      · refine a_iconst (k := 0) dX12_readText_103 (n_lit (by decide)) ?_
        refine a_istore_n dX12_readText_104 rfl (by decide) rfl ?_
        exact (h6.1 c7)
      · refine a_aload_n dX12_readText_98 rfl rfl ?_
        refine gf_X12_181 (x := m5 12 0 16) rfl dX12_readText_99 ?_
        exact a_iret dX12_readText_102 (h6.2 c7)
set_option maxRecDepth 10000 in
theorem sg_X12_readText_105 {d : Nat} {sx : Option (List Int)} (a1 : Int) (a2 : Int) (mem : AMem) (Q : Option AV → AMem → Prop) (h : ((mem 12 0 18) ≤ a2 → ((0 ≤ (1 : Int) ∧ (1 : Int) < 2) ∧ ((0 ≤ a1 ∧ a1 < 2) ∧ (Y cX12_readText 3 RX12 (d + 1) sx 177 [some (vr 12 0), some (vi a1), some (vi 0)] [] (upM mem 1321 0 a1 (mem 1321 0 1)) Q)))) ∧ (¬ (mem 12 0 18) ≤ a2 → ((0 ≤ (w32 (130 + a2)) ∧ (w32 (130 + a2)) < 260) ∧ ((0 ≤ (w32 ((w32 (130 * a1)) + a2)) ∧ (w32 ((w32 (130 * a1)) + a2)) < 260) ∧ ((0 ≤ (w32 (130 + a2)) ∧ (w32 (130 + a2)) < 260) ∧ ((0 ≤ (w32 ((w32 (130 * a1)) + a2)) ∧ (w32 ((w32 (130 * a1)) + a2)) < 260) ∧ (Y cX12_readText 3 RX12 (d + 1) sx 105 [some (vr 12 0), some (vi a1), some (vi (w32 (a2 + 1)))] [] (upM (upM mem 1319 0 (w32 ((w32 (130 * a1)) + a2)) (b8 (mem 1319 0 (w32 (130 + a2))))) 1320 0 (w32 ((w32 (130 * a1)) + a2)) (mem 1320 0 (w32 (130 + a2)))) Q))))))) : Y cX12_readText 3 RX12 (d + 1) sx 105 [some (vr 12 0), some (vi a1), some (vi a2)] [] mem Q := by
  refine a_iload_n dX12_readText_105 rfl rfl ?_
  refine a_aload_n dX12_readText_106 rfl rfl ?_
  refine gf_X12_184 (x := mem 12 0 18) rfl dX12_readText_107 ?_
  refine a_icmp_ge (tgt := 163) dX12_readText_110 (by decide) ⟨fun c1 => ?_, fun c1 => ?_⟩
  · refine a_aload_n dX12_readText_163 rfl rfl ?_
    refine gf_X12_47 dX12_readText_164 ?_
    refine a_iload_n dX12_readText_167 rfl rfl ?_
    refine a_aload_n dX12_readText_168 rfl rfl ?_
    refine gf_X12_47 dX12_readText_169 ?_
    refine a_iconst (k := 1) dX12_readText_172 (n_lit (by decide)) ?_
    refine a_iald rfl rfl (by decide) rfl dX12_readText_173 ⟨(h.1 c1).1, ?_⟩
    refine a_iast rfl rfl (by decide) rfl dX12_readText_174 ⟨(h.1 c1).2.1, ?_⟩
    refine a_iconst (k := 0) dX12_readText_175 (n_lit (by decide)) ?_
    refine a_istore_n dX12_readText_176 rfl (by decide) rfl ?_
    exact (h.1 c1).2.2
  · refine a_aload_n dX12_readText_113 rfl rfl ?_
    refine gf_X12_41 dX12_readText_114 ?_
    refine a_sipush (k := 130) dX12_readText_117 (by decide) (n_lit (by decide)) ?_
    refine a_iload_n dX12_readText_120 rfl rfl ?_
    refine a_imul dX12_readText_121 ?_
    refine a_iload_n dX12_readText_122 rfl rfl ?_
    refine a_iadd dX12_readText_123 ?_
    refine a_aload_n dX12_readText_124 rfl rfl ?_
    refine gf_X12_41 dX12_readText_125 ?_
    refine a_sipush (k := 130) dX12_readText_128 (by decide) (n_lit (by decide)) ?_
    refine a_iload_n dX12_readText_131 rfl rfl ?_
    refine a_iadd dX12_readText_132 ?_
    refine a_bald rfl rfl (by decide) rfl dX12_readText_133 ⟨(h.2 c1).1, ?_⟩
    refine a_bast rfl rfl (by decide) rfl dX12_readText_134 ⟨(h.2 c1).2.1, ?_⟩
    refine a_aload_n dX12_readText_135 rfl rfl ?_
    refine gf_X12_44 dX12_readText_136 ?_
    refine a_sipush (k := 130) dX12_readText_139 (by decide) (n_lit (by decide)) ?_
    refine a_iload_n dX12_readText_142 rfl rfl ?_
    refine a_imul dX12_readText_143 ?_
    refine a_iload_n dX12_readText_144 rfl rfl ?_
    refine a_iadd dX12_readText_145 ?_
    refine a_aload_n dX12_readText_146 rfl rfl ?_
    refine gf_X12_44 dX12_readText_147 ?_
    refine a_sipush (k := 130) dX12_readText_150 (by decide) (n_lit (by decide)) ?_
    refine a_iload_n dX12_readText_153 rfl rfl ?_
    refine a_iadd dX12_readText_154 ?_
    refine a_iald rfl rfl (by decide) rfl dX12_readText_155 ⟨(h.2 c1).2.2.1, ?_⟩
    refine a_iast rfl rfl (by decide) rfl dX12_readText_156 ⟨(h.2 c1).2.2.2.1, ?_⟩
    refine a_iinc dX12_readText_157 rfl (by decide) rfl ?_
    refine a_goto (tgt := 105) dX12_readText_160 (by decide) ?_
    exact (h.2 c1).2.2.2.2
set_option maxRecDepth 10000 in
theorem sg_X12_readText_177 {d : Nat} {sx : Option (List Int)} (a1 : Int) (a2 : Int) (mem : AMem) (Q : Option AV → AMem → Prop) (h : (0 ≤ a1 ∧ a1 < 2) ∧ (((mem 1321 0 a1) ≤ a2 → (Q (some (vi (-1))) mem)) ∧ (¬ (mem 1321 0 a1) ≤ a2 → ((0 ≤ (w32 (61 + a2)) ∧ (w32 (61 + a2)) < 122) ∧ ((0 ≤ (w32 ((w32 (61 * a1)) + a2)) ∧ (w32 ((w32 (61 * a1)) + a2)) < 122) ∧ ((0 ≤ (w32 (61 + a2)) ∧ (w32 (61 + a2)) < 122) ∧ ((0 ≤ (w32 ((w32 (61 * a1)) + a2)) ∧ (w32 ((w32 (61 * a1)) + a2)) < 122) ∧ (Y cX12_readText 3 RX12 (d + 1) sx 177 [some (vr 12 0), some (vi a1), some (vi (w32 (a2 + 1)))] [] (upM (upM mem 1322 0 (w32 ((w32 (61 * a1)) + a2)) (s16 (mem 1322 0 (w32 (61 + a2))))) 1323 0 (w32 ((w32 (61 * a1)) + a2)) (s16 (mem 1323 0 (w32 (61 + a2))))) Q)))))))) : Y cX12_readText 3 RX12 (d + 1) sx 177 [some (vr 12 0), some (vi a1), some (vi a2)] [] mem Q := by
  refine a_iload_n dX12_readText_177 rfl rfl ?_
  refine a_aload_n dX12_readText_178 rfl rfl ?_
  refine gf_X12_47 dX12_readText_179 ?_
  refine a_iload_n dX12_readText_182 rfl rfl ?_
  refine a_iald rfl rfl (by decide) rfl dX12_readText_183 ⟨h.1, ?_⟩
  refine a_icmp_ge (tgt := 233) dX12_readText_184 (by decide) ⟨fun c1 => ?_, fun c1 => ?_⟩
  · refine a_iconst (k := (-1)) dX12_readText_233 (n_lit (by decide)) ?_
    exact a_iret dX12_readText_234 (h.2.1 c1)
  · refine a_aload_n dX12_readText_187 rfl rfl ?_
    refine gf_X12_50 dX12_readText_188 ?_
    refine a_bipush (k := 61) dX12_readText_191 (by decide) (n_lit (by decide)) ?_
    refine a_iload_n dX12_readText_193 rfl rfl ?_
    refine a_imul dX12_readText_194 ?_
    refine a_iload_n dX12_readText_195 rfl rfl ?_
    refine a_iadd dX12_readText_196 ?_
    refine a_aload_n dX12_readText_197 rfl rfl ?_
    refine gf_X12_50 dX12_readText_198 ?_
    refine a_bipush (k := 61) dX12_readText_201 (by decide) (n_lit (by decide)) ?_
    refine a_iload_n dX12_readText_203 rfl rfl ?_
    refine a_iadd dX12_readText_204 ?_
    refine a_sald rfl rfl (by decide) rfl dX12_readText_205 ⟨(h.2.2 c1).1, ?_⟩
    refine a_sast rfl rfl (by decide) rfl dX12_readText_206 ⟨(h.2.2 c1).2.1, ?_⟩
    refine a_aload_n dX12_readText_207 rfl rfl ?_
    refine gf_X12_54 dX12_readText_208 ?_
    refine a_bipush (k := 61) dX12_readText_211 (by decide) (n_lit (by decide)) ?_
    refine a_iload_n dX12_readText_213 rfl rfl ?_
    refine a_imul dX12_readText_214 ?_
    refine a_iload_n dX12_readText_215 rfl rfl ?_
    refine a_iadd dX12_readText_216 ?_
    refine a_aload_n dX12_readText_217 rfl rfl ?_
    refine gf_X12_54 dX12_readText_218 ?_
    refine a_bipush (k := 61) dX12_readText_221 (by decide) (n_lit (by decide)) ?_
    refine a_iload_n dX12_readText_223 rfl rfl ?_
    refine a_iadd dX12_readText_224 ?_
    refine a_sald rfl rfl (by decide) rfl dX12_readText_225 ⟨(h.2.2 c1).2.2.1, ?_⟩
    refine a_sast rfl rfl (by decide) rfl dX12_readText_226 ⟨(h.2.2 c1).2.2.2.1, ?_⟩
    refine a_iinc dX12_readText_227 rfl (by decide) rfl ?_
    refine a_goto (tgt := 177) dX12_readText_230 (by decide) ?_
    exact (h.2.2 c1).2.2.2.2
set_option maxRecDepth 10000 in
theorem sg_X12_twoOf_0 {d : Nat} {sx : Option (List Int)} (a0 : Int) (a1 : Int) (a2 : Int) (mem : AMem) (Q : Option AV → AMem → Prop) (h : (a0 = 37 → ((a2 = (0 : Int) → (Q (some (vi 0)) mem)) ∧ (¬ a2 = (0 : Int) → ((a2 ≠ (-1 : Int) → (a2 ≠ 0 ∧ (Q (some (vi (Int.tmod a1 a2))) mem))) ∧ (a2 = (-1 : Int) → (Q (some (vi 0)) mem)))))) ∧ (a0 = 38 → ((a1 = (0 : Int) → (Q (some (vi 0)) mem)) ∧ (¬ a1 = (0 : Int) → ((a2 = (0 : Int) → (Q (some (vi 0)) mem)) ∧ (¬ a2 = (0 : Int) → (Q (some (vi 1)) mem)))))) ∧ (a0 = 39 → ((a1 ≠ (0 : Int) → (Q (some (vi 1)) mem)) ∧ (a1 = (0 : Int) → ((a2 = (0 : Int) → (Q (some (vi 0)) mem)) ∧ (¬ a2 = (0 : Int) → (Q (some (vi 1)) mem)))))) ∧ (a0 = 40 → ((a1 ≠ (0 : Int) → (Q (some (vi 1)) mem)) ∧ (a1 = (0 : Int) → ((a2 = (0 : Int) → (Q (some (vi 0)) mem)) ∧ (¬ a2 = (0 : Int) → (Q (some (vi 1)) mem)))))) ∧ (a0 = 41 → ((a1 ≠ (0 : Int) → (Q (some (vi 1)) mem)) ∧ (a1 = (0 : Int) → ((a2 = (0 : Int) → (Q (some (vi 0)) mem)) ∧ (¬ a2 = (0 : Int) → (Q (some (vi 1)) mem)))))) ∧ (a0 = 42 → (Q (some (vi (w32 (a1 * a2)))) mem)) ∧ (a0 = 43 → (Q (some (vi (w32 (a1 + a2)))) mem)) ∧ (a0 = 44 → ((a1 ≠ (0 : Int) → (Q (some (vi 1)) mem)) ∧ (a1 = (0 : Int) → ((a2 = (0 : Int) → (Q (some (vi 0)) mem)) ∧ (¬ a2 = (0 : Int) → (Q (some (vi 1)) mem)))))) ∧ (a0 = 45 → (Q (some (vi (w32 (a1 - a2)))) mem)) ∧ (a0 = 46 → ((a1 ≠ (0 : Int) → (Q (some (vi 1)) mem)) ∧ (a1 = (0 : Int) → ((a2 = (0 : Int) → (Q (some (vi 0)) mem)) ∧ (¬ a2 = (0 : Int) → (Q (some (vi 1)) mem)))))) ∧ (a0 = 47 → ((a2 ≠ (0 : Int) → ((a2 ≠ (-1 : Int) → (a2 ≠ 0 ∧ (Q (some (vi (w32 (Int.tdiv a1 a2)))) mem))) ∧ (a2 = (-1 : Int) → (Q (some (vi (w32 (-a1)))) mem)))) ∧ (a2 = (0 : Int) → (Q (some (vi 0)) mem)))) ∧ (a0 = 48 → ((a1 ≠ (0 : Int) → (Q (some (vi 1)) mem)) ∧ (a1 = (0 : Int) → ((a2 = (0 : Int) → (Q (some (vi 0)) mem)) ∧ (¬ a2 = (0 : Int) → (Q (some (vi 1)) mem)))))) ∧ (a0 = 49 → ((a1 ≠ (0 : Int) → (Q (some (vi 1)) mem)) ∧ (a1 = (0 : Int) → ((a2 = (0 : Int) → (Q (some (vi 0)) mem)) ∧ (¬ a2 = (0 : Int) → (Q (some (vi 1)) mem)))))) ∧ (a0 = 50 → ((a1 ≠ (0 : Int) → (Q (some (vi 1)) mem)) ∧ (a1 = (0 : Int) → ((a2 = (0 : Int) → (Q (some (vi 0)) mem)) ∧ (¬ a2 = (0 : Int) → (Q (some (vi 1)) mem)))))) ∧ (a0 = 51 → ((a1 ≠ (0 : Int) → (Q (some (vi 1)) mem)) ∧ (a1 = (0 : Int) → ((a2 = (0 : Int) → (Q (some (vi 0)) mem)) ∧ (¬ a2 = (0 : Int) → (Q (some (vi 1)) mem)))))) ∧ (a0 = 52 → ((a1 ≠ (0 : Int) → (Q (some (vi 1)) mem)) ∧ (a1 = (0 : Int) → ((a2 = (0 : Int) → (Q (some (vi 0)) mem)) ∧ (¬ a2 = (0 : Int) → (Q (some (vi 1)) mem)))))) ∧ (a0 = 53 → ((a1 ≠ (0 : Int) → (Q (some (vi 1)) mem)) ∧ (a1 = (0 : Int) → ((a2 = (0 : Int) → (Q (some (vi 0)) mem)) ∧ (¬ a2 = (0 : Int) → (Q (some (vi 1)) mem)))))) ∧ (a0 = 54 → ((a1 ≠ (0 : Int) → (Q (some (vi 1)) mem)) ∧ (a1 = (0 : Int) → ((a2 = (0 : Int) → (Q (some (vi 0)) mem)) ∧ (¬ a2 = (0 : Int) → (Q (some (vi 1)) mem)))))) ∧ (a0 = 55 → ((a1 ≠ (0 : Int) → (Q (some (vi 1)) mem)) ∧ (a1 = (0 : Int) → ((a2 = (0 : Int) → (Q (some (vi 0)) mem)) ∧ (¬ a2 = (0 : Int) → (Q (some (vi 1)) mem)))))) ∧ (a0 = 56 → ((a1 ≠ (0 : Int) → (Q (some (vi 1)) mem)) ∧ (a1 = (0 : Int) → ((a2 = (0 : Int) → (Q (some (vi 0)) mem)) ∧ (¬ a2 = (0 : Int) → (Q (some (vi 1)) mem)))))) ∧ (a0 = 57 → ((a1 ≠ (0 : Int) → (Q (some (vi 1)) mem)) ∧ (a1 = (0 : Int) → ((a2 = (0 : Int) → (Q (some (vi 0)) mem)) ∧ (¬ a2 = (0 : Int) → (Q (some (vi 1)) mem)))))) ∧ (a0 = 58 → ((a1 ≠ (0 : Int) → (Q (some (vi 1)) mem)) ∧ (a1 = (0 : Int) → ((a2 = (0 : Int) → (Q (some (vi 0)) mem)) ∧ (¬ a2 = (0 : Int) → (Q (some (vi 1)) mem)))))) ∧ (a0 = 59 → ((a1 ≠ (0 : Int) → (Q (some (vi 1)) mem)) ∧ (a1 = (0 : Int) → ((a2 = (0 : Int) → (Q (some (vi 0)) mem)) ∧ (¬ a2 = (0 : Int) → (Q (some (vi 1)) mem)))))) ∧ (a0 = 60 → ((a2 ≤ a1 → (Q (some (vi 0)) mem)) ∧ (¬ a2 ≤ a1 → (Q (some (vi 1)) mem)))) ∧ (a0 = 61 → ((a1 ≠ a2 → (Q (some (vi 0)) mem)) ∧ (a1 = a2 → (Q (some (vi 1)) mem)))) ∧ (a0 = 62 → ((a1 ≤ a2 → (Q (some (vi 0)) mem)) ∧ (¬ a1 ≤ a2 → (Q (some (vi 1)) mem)))) ∧ (¬ (37 ≤ a0 ∧ a0 ≤ 62) → ((a1 ≠ (0 : Int) → (Q (some (vi 1)) mem)) ∧ (a1 = (0 : Int) → ((a2 = (0 : Int) → (Q (some (vi 0)) mem)) ∧ (¬ a2 = (0 : Int) → (Q (some (vi 1)) mem))))))) : Y cX12_twoOf 3 RX12 (d + 1) sx 0 [some (vi a0), some (vi a1), some (vi a2)] [] mem Q := by
  refine a_iload_n dX12_twoOf_0 rfl rfl ?_
  refine a_table dX12_twoOf_1 (fun z => if z = 37 then 154 else if z = 38 then 204 else if z = 39 then 218 else if z = 40 then 218 else if z = 41 then 218 else if z = 42 then 128 else if z = 43 then 120 else if z = 44 then 218 else if z = 45 then 124 else if z = 46 then 218 else if z = 47 then 132 else if z = 48 then 218 else if z = 49 then 218 else if z = 50 then 218 else if z = 51 then 218 else if z = 52 then 218 else if z = 53 then 218 else if z = 54 then 218 else if z = 55 then 218 else if z = 56 then 218 else if z = 57 then 218 else if z = 58 then 218 else if z = 59 then 218 else if z = 60 then 171 else if z = 61 then 182 else if z = 62 then 193 else 0) 218 (by decide) (by decide) (by decide) ⟨fun e1a e1b => ?_, fun e45 => ?_⟩
  · rcases (by omega : a0 = 37 ∨ a0 = 38 ∨ a0 = 39 ∨ a0 = 40 ∨ a0 = 41 ∨ a0 = 42 ∨ a0 = 43 ∨ a0 = 44 ∨ a0 = 45 ∨ a0 = 46 ∨ a0 = 47 ∨ a0 = 48 ∨ a0 = 49 ∨ a0 = 50 ∨ a0 = 51 ∨ a0 = 52 ∨ a0 = 53 ∨ a0 = 54 ∨ a0 = 55 ∨ a0 = 56 ∨ a0 = 57 ∨ a0 = 58 ∨ a0 = 59 ∨ a0 = 60 ∨ a0 = 61 ∨ a0 = 62) with e1 | e1 | e1 | e1 | e1 | e1 | e1 | e1 | e1 | e1 | e1 | e1 | e1 | e1 | e1 | e1 | e1 | e1 | e1 | e1 | e1 | e1 | e1 | e1 | e1 | e1
    · refine Y_at (pc := 154) (by rw [e1]; rfl) ?_
      refine a_iload_n dX12_twoOf_154 rfl rfl ?_
      refine a_if_eq (tgt := 163) dX12_twoOf_155 (by decide) ⟨fun c2 => ?_, fun c2 => ?_⟩
      · refine a_iconst (k := 0) dX12_twoOf_163 (n_lit (by decide)) ?_
        refine a_goto (tgt := 170) dX12_twoOf_164 (by decide) ?_
        exact a_iret dX12_twoOf_170 ((h.1 e1).1 c2)
      · refine a_iload_n dX12_twoOf_158 rfl rfl ?_
        refine a_iconst (k := (-1)) dX12_twoOf_159 (n_lit (by decide)) ?_
        refine a_icmp_ne (tgt := 167) dX12_twoOf_160 (by decide) ⟨fun c3 => ?_, fun c3 => ?_⟩
        · refine a_iload_n dX12_twoOf_167 rfl rfl ?_
          refine a_iload_n dX12_twoOf_168 rfl rfl ?_
          refine a_irem dX12_twoOf_169 (((h.1 e1).2 c2).1 c3).1 ?_
          exact a_iret dX12_twoOf_170 (((h.1 e1).2 c2).1 c3).2
        · refine a_iconst (k := 0) dX12_twoOf_163 (n_lit (by decide)) ?_
          refine a_goto (tgt := 170) dX12_twoOf_164 (by decide) ?_
          exact a_iret dX12_twoOf_170 (((h.1 e1).2 c2).2 c3)
    · refine Y_at (pc := 204) (by rw [e1]; rfl) ?_
      refine a_iload_n dX12_twoOf_204 rfl rfl ?_
      refine a_if_eq (tgt := 216) dX12_twoOf_205 (by decide) ⟨fun c4 => ?_, fun c4 => ?_⟩
      · refine a_iconst (k := 0) dX12_twoOf_216 (n_lit (by decide)) ?_
        exact a_iret dX12_twoOf_217 ((h.2.1 e1).1 c4)
      · refine a_iload_n dX12_twoOf_208 rfl rfl ?_
        refine a_if_eq (tgt := 216) dX12_twoOf_209 (by decide) ⟨fun c5 => ?_, fun c5 => ?_⟩
        · refine a_iconst (k := 0) dX12_twoOf_216 (n_lit (by decide)) ?_
          exact a_iret dX12_twoOf_217 (((h.2.1 e1).2 c4).1 c5)
        · refine a_iconst (k := 1) dX12_twoOf_212 (n_lit (by decide)) ?_
          refine a_goto (tgt := 217) dX12_twoOf_213 (by decide) ?_
          exact a_iret dX12_twoOf_217 (((h.2.1 e1).2 c4).2 c5)
    · refine Y_at (pc := 218) (by rw [e1]; rfl) ?_
      refine a_iload_n dX12_twoOf_218 rfl rfl ?_
      refine a_if_ne (tgt := 226) dX12_twoOf_219 (by decide) ⟨fun c6 => ?_, fun c6 => ?_⟩
      · refine a_iconst (k := 1) dX12_twoOf_226 (n_lit (by decide)) ?_
        refine a_goto (tgt := 231) dX12_twoOf_227 (by decide) ?_
        exact a_iret dX12_twoOf_231 ((h.2.2.1 e1).1 c6)
      · refine a_iload_n dX12_twoOf_222 rfl rfl ?_
        refine a_if_eq (tgt := 230) dX12_twoOf_223 (by decide) ⟨fun c7 => ?_, fun c7 => ?_⟩
        · refine a_iconst (k := 0) dX12_twoOf_230 (n_lit (by decide)) ?_
          exact a_iret dX12_twoOf_231 (((h.2.2.1 e1).2 c6).1 c7)
        · refine a_iconst (k := 1) dX12_twoOf_226 (n_lit (by decide)) ?_
          refine a_goto (tgt := 231) dX12_twoOf_227 (by decide) ?_
          exact a_iret dX12_twoOf_231 (((h.2.2.1 e1).2 c6).2 c7)
    · refine Y_at (pc := 218) (by rw [e1]; rfl) ?_
      refine a_iload_n dX12_twoOf_218 rfl rfl ?_
      refine a_if_ne (tgt := 226) dX12_twoOf_219 (by decide) ⟨fun c8 => ?_, fun c8 => ?_⟩
      · refine a_iconst (k := 1) dX12_twoOf_226 (n_lit (by decide)) ?_
        refine a_goto (tgt := 231) dX12_twoOf_227 (by decide) ?_
        exact a_iret dX12_twoOf_231 ((h.2.2.2.1 e1).1 c8)
      · refine a_iload_n dX12_twoOf_222 rfl rfl ?_
        refine a_if_eq (tgt := 230) dX12_twoOf_223 (by decide) ⟨fun c9 => ?_, fun c9 => ?_⟩
        · refine a_iconst (k := 0) dX12_twoOf_230 (n_lit (by decide)) ?_
          exact a_iret dX12_twoOf_231 (((h.2.2.2.1 e1).2 c8).1 c9)
        · refine a_iconst (k := 1) dX12_twoOf_226 (n_lit (by decide)) ?_
          refine a_goto (tgt := 231) dX12_twoOf_227 (by decide) ?_
          exact a_iret dX12_twoOf_231 (((h.2.2.2.1 e1).2 c8).2 c9)
    · refine Y_at (pc := 218) (by rw [e1]; rfl) ?_
      refine a_iload_n dX12_twoOf_218 rfl rfl ?_
      refine a_if_ne (tgt := 226) dX12_twoOf_219 (by decide) ⟨fun c10 => ?_, fun c10 => ?_⟩
      · refine a_iconst (k := 1) dX12_twoOf_226 (n_lit (by decide)) ?_
        refine a_goto (tgt := 231) dX12_twoOf_227 (by decide) ?_
        exact a_iret dX12_twoOf_231 ((h.2.2.2.2.1 e1).1 c10)
      · refine a_iload_n dX12_twoOf_222 rfl rfl ?_
        refine a_if_eq (tgt := 230) dX12_twoOf_223 (by decide) ⟨fun c11 => ?_, fun c11 => ?_⟩
        · refine a_iconst (k := 0) dX12_twoOf_230 (n_lit (by decide)) ?_
          exact a_iret dX12_twoOf_231 (((h.2.2.2.2.1 e1).2 c10).1 c11)
        · refine a_iconst (k := 1) dX12_twoOf_226 (n_lit (by decide)) ?_
          refine a_goto (tgt := 231) dX12_twoOf_227 (by decide) ?_
          exact a_iret dX12_twoOf_231 (((h.2.2.2.2.1 e1).2 c10).2 c11)
    · refine Y_at (pc := 128) (by rw [e1]; rfl) ?_
      refine a_iload_n dX12_twoOf_128 rfl rfl ?_
      refine a_iload_n dX12_twoOf_129 rfl rfl ?_
      refine a_imul dX12_twoOf_130 ?_
      exact a_iret dX12_twoOf_131 (h.2.2.2.2.2.1 e1)
    · refine Y_at (pc := 120) (by rw [e1]; rfl) ?_
      refine a_iload_n dX12_twoOf_120 rfl rfl ?_
      refine a_iload_n dX12_twoOf_121 rfl rfl ?_
      refine a_iadd dX12_twoOf_122 ?_
      exact a_iret dX12_twoOf_123 (h.2.2.2.2.2.2.1 e1)
    · refine Y_at (pc := 218) (by rw [e1]; rfl) ?_
      refine a_iload_n dX12_twoOf_218 rfl rfl ?_
      refine a_if_ne (tgt := 226) dX12_twoOf_219 (by decide) ⟨fun c12 => ?_, fun c12 => ?_⟩
      · refine a_iconst (k := 1) dX12_twoOf_226 (n_lit (by decide)) ?_
        refine a_goto (tgt := 231) dX12_twoOf_227 (by decide) ?_
        exact a_iret dX12_twoOf_231 ((h.2.2.2.2.2.2.2.1 e1).1 c12)
      · refine a_iload_n dX12_twoOf_222 rfl rfl ?_
        refine a_if_eq (tgt := 230) dX12_twoOf_223 (by decide) ⟨fun c13 => ?_, fun c13 => ?_⟩
        · refine a_iconst (k := 0) dX12_twoOf_230 (n_lit (by decide)) ?_
          exact a_iret dX12_twoOf_231 (((h.2.2.2.2.2.2.2.1 e1).2 c12).1 c13)
        · refine a_iconst (k := 1) dX12_twoOf_226 (n_lit (by decide)) ?_
          refine a_goto (tgt := 231) dX12_twoOf_227 (by decide) ?_
          exact a_iret dX12_twoOf_231 (((h.2.2.2.2.2.2.2.1 e1).2 c12).2 c13)
    · refine Y_at (pc := 124) (by rw [e1]; rfl) ?_
      refine a_iload_n dX12_twoOf_124 rfl rfl ?_
      refine a_iload_n dX12_twoOf_125 rfl rfl ?_
      refine a_isub dX12_twoOf_126 ?_
      exact a_iret dX12_twoOf_127 (h.2.2.2.2.2.2.2.2.1 e1)
    · refine Y_at (pc := 218) (by rw [e1]; rfl) ?_
      refine a_iload_n dX12_twoOf_218 rfl rfl ?_
      refine a_if_ne (tgt := 226) dX12_twoOf_219 (by decide) ⟨fun c14 => ?_, fun c14 => ?_⟩
      · refine a_iconst (k := 1) dX12_twoOf_226 (n_lit (by decide)) ?_
        refine a_goto (tgt := 231) dX12_twoOf_227 (by decide) ?_
        exact a_iret dX12_twoOf_231 ((h.2.2.2.2.2.2.2.2.2.1 e1).1 c14)
      · refine a_iload_n dX12_twoOf_222 rfl rfl ?_
        refine a_if_eq (tgt := 230) dX12_twoOf_223 (by decide) ⟨fun c15 => ?_, fun c15 => ?_⟩
        · refine a_iconst (k := 0) dX12_twoOf_230 (n_lit (by decide)) ?_
          exact a_iret dX12_twoOf_231 (((h.2.2.2.2.2.2.2.2.2.1 e1).2 c14).1 c15)
        · refine a_iconst (k := 1) dX12_twoOf_226 (n_lit (by decide)) ?_
          refine a_goto (tgt := 231) dX12_twoOf_227 (by decide) ?_
          exact a_iret dX12_twoOf_231 (((h.2.2.2.2.2.2.2.2.2.1 e1).2 c14).2 c15)
    · refine Y_at (pc := 132) (by rw [e1]; rfl) ?_
      refine a_iload_n dX12_twoOf_132 rfl rfl ?_
      refine a_if_ne (tgt := 140) dX12_twoOf_133 (by decide) ⟨fun c16 => ?_, fun c16 => ?_⟩
      · refine a_iload_n dX12_twoOf_140 rfl rfl ?_
        refine a_iconst (k := (-1)) dX12_twoOf_141 (n_lit (by decide)) ?_
        refine a_icmp_ne (tgt := 150) dX12_twoOf_142 (by decide) ⟨fun c17 => ?_, fun c17 => ?_⟩
        · refine a_iload_n dX12_twoOf_150 rfl rfl ?_
          refine a_iload_n dX12_twoOf_151 rfl rfl ?_
          refine a_idiv dX12_twoOf_152 (((h.2.2.2.2.2.2.2.2.2.2.1 e1).1 c16).1 c17).1 ?_
          exact a_iret dX12_twoOf_153 (((h.2.2.2.2.2.2.2.2.2.2.1 e1).1 c16).1 c17).2
        · refine a_iload_n dX12_twoOf_145 rfl rfl ?_
          refine a_ineg dX12_twoOf_146 ?_
          refine a_goto (tgt := 153) dX12_twoOf_147 (by decide) ?_
          exact a_iret dX12_twoOf_153 (((h.2.2.2.2.2.2.2.2.2.2.1 e1).1 c16).2 c17)
      · refine a_iconst (k := 0) dX12_twoOf_136 (n_lit (by decide)) ?_
        refine a_goto (tgt := 153) dX12_twoOf_137 (by decide) ?_
        exact a_iret dX12_twoOf_153 ((h.2.2.2.2.2.2.2.2.2.2.1 e1).2 c16)
    · refine Y_at (pc := 218) (by rw [e1]; rfl) ?_
      refine a_iload_n dX12_twoOf_218 rfl rfl ?_
      refine a_if_ne (tgt := 226) dX12_twoOf_219 (by decide) ⟨fun c18 => ?_, fun c18 => ?_⟩
      · refine a_iconst (k := 1) dX12_twoOf_226 (n_lit (by decide)) ?_
        refine a_goto (tgt := 231) dX12_twoOf_227 (by decide) ?_
        exact a_iret dX12_twoOf_231 ((h.2.2.2.2.2.2.2.2.2.2.2.1 e1).1 c18)
      · refine a_iload_n dX12_twoOf_222 rfl rfl ?_
        refine a_if_eq (tgt := 230) dX12_twoOf_223 (by decide) ⟨fun c19 => ?_, fun c19 => ?_⟩
        · refine a_iconst (k := 0) dX12_twoOf_230 (n_lit (by decide)) ?_
          exact a_iret dX12_twoOf_231 (((h.2.2.2.2.2.2.2.2.2.2.2.1 e1).2 c18).1 c19)
        · refine a_iconst (k := 1) dX12_twoOf_226 (n_lit (by decide)) ?_
          refine a_goto (tgt := 231) dX12_twoOf_227 (by decide) ?_
          exact a_iret dX12_twoOf_231 (((h.2.2.2.2.2.2.2.2.2.2.2.1 e1).2 c18).2 c19)
    · refine Y_at (pc := 218) (by rw [e1]; rfl) ?_
      refine a_iload_n dX12_twoOf_218 rfl rfl ?_
      refine a_if_ne (tgt := 226) dX12_twoOf_219 (by decide) ⟨fun c20 => ?_, fun c20 => ?_⟩
      · refine a_iconst (k := 1) dX12_twoOf_226 (n_lit (by decide)) ?_
        refine a_goto (tgt := 231) dX12_twoOf_227 (by decide) ?_
        exact a_iret dX12_twoOf_231 ((h.2.2.2.2.2.2.2.2.2.2.2.2.1 e1).1 c20)
      · refine a_iload_n dX12_twoOf_222 rfl rfl ?_
        refine a_if_eq (tgt := 230) dX12_twoOf_223 (by decide) ⟨fun c21 => ?_, fun c21 => ?_⟩
        · refine a_iconst (k := 0) dX12_twoOf_230 (n_lit (by decide)) ?_
          exact a_iret dX12_twoOf_231 (((h.2.2.2.2.2.2.2.2.2.2.2.2.1 e1).2 c20).1 c21)
        · refine a_iconst (k := 1) dX12_twoOf_226 (n_lit (by decide)) ?_
          refine a_goto (tgt := 231) dX12_twoOf_227 (by decide) ?_
          exact a_iret dX12_twoOf_231 (((h.2.2.2.2.2.2.2.2.2.2.2.2.1 e1).2 c20).2 c21)
    · refine Y_at (pc := 218) (by rw [e1]; rfl) ?_
      refine a_iload_n dX12_twoOf_218 rfl rfl ?_
      refine a_if_ne (tgt := 226) dX12_twoOf_219 (by decide) ⟨fun c22 => ?_, fun c22 => ?_⟩
      · refine a_iconst (k := 1) dX12_twoOf_226 (n_lit (by decide)) ?_
        refine a_goto (tgt := 231) dX12_twoOf_227 (by decide) ?_
        exact a_iret dX12_twoOf_231 ((h.2.2.2.2.2.2.2.2.2.2.2.2.2.1 e1).1 c22)
      · refine a_iload_n dX12_twoOf_222 rfl rfl ?_
        refine a_if_eq (tgt := 230) dX12_twoOf_223 (by decide) ⟨fun c23 => ?_, fun c23 => ?_⟩
        · refine a_iconst (k := 0) dX12_twoOf_230 (n_lit (by decide)) ?_
          exact a_iret dX12_twoOf_231 (((h.2.2.2.2.2.2.2.2.2.2.2.2.2.1 e1).2 c22).1 c23)
        · refine a_iconst (k := 1) dX12_twoOf_226 (n_lit (by decide)) ?_
          refine a_goto (tgt := 231) dX12_twoOf_227 (by decide) ?_
          exact a_iret dX12_twoOf_231 (((h.2.2.2.2.2.2.2.2.2.2.2.2.2.1 e1).2 c22).2 c23)
    · refine Y_at (pc := 218) (by rw [e1]; rfl) ?_
      refine a_iload_n dX12_twoOf_218 rfl rfl ?_
      refine a_if_ne (tgt := 226) dX12_twoOf_219 (by decide) ⟨fun c24 => ?_, fun c24 => ?_⟩
      · refine a_iconst (k := 1) dX12_twoOf_226 (n_lit (by decide)) ?_
        refine a_goto (tgt := 231) dX12_twoOf_227 (by decide) ?_
        exact a_iret dX12_twoOf_231 ((h.2.2.2.2.2.2.2.2.2.2.2.2.2.2.1 e1).1 c24)
      · refine a_iload_n dX12_twoOf_222 rfl rfl ?_
        refine a_if_eq (tgt := 230) dX12_twoOf_223 (by decide) ⟨fun c25 => ?_, fun c25 => ?_⟩
        · refine a_iconst (k := 0) dX12_twoOf_230 (n_lit (by decide)) ?_
          exact a_iret dX12_twoOf_231 (((h.2.2.2.2.2.2.2.2.2.2.2.2.2.2.1 e1).2 c24).1 c25)
        · refine a_iconst (k := 1) dX12_twoOf_226 (n_lit (by decide)) ?_
          refine a_goto (tgt := 231) dX12_twoOf_227 (by decide) ?_
          exact a_iret dX12_twoOf_231 (((h.2.2.2.2.2.2.2.2.2.2.2.2.2.2.1 e1).2 c24).2 c25)
    · refine Y_at (pc := 218) (by rw [e1]; rfl) ?_
      refine a_iload_n dX12_twoOf_218 rfl rfl ?_
      refine a_if_ne (tgt := 226) dX12_twoOf_219 (by decide) ⟨fun c26 => ?_, fun c26 => ?_⟩
      · refine a_iconst (k := 1) dX12_twoOf_226 (n_lit (by decide)) ?_
        refine a_goto (tgt := 231) dX12_twoOf_227 (by decide) ?_
        exact a_iret dX12_twoOf_231 ((h.2.2.2.2.2.2.2.2.2.2.2.2.2.2.2.1 e1).1 c26)
      · refine a_iload_n dX12_twoOf_222 rfl rfl ?_
        refine a_if_eq (tgt := 230) dX12_twoOf_223 (by decide) ⟨fun c27 => ?_, fun c27 => ?_⟩
        · refine a_iconst (k := 0) dX12_twoOf_230 (n_lit (by decide)) ?_
          exact a_iret dX12_twoOf_231 (((h.2.2.2.2.2.2.2.2.2.2.2.2.2.2.2.1 e1).2 c26).1 c27)
        · refine a_iconst (k := 1) dX12_twoOf_226 (n_lit (by decide)) ?_
          refine a_goto (tgt := 231) dX12_twoOf_227 (by decide) ?_
          exact a_iret dX12_twoOf_231 (((h.2.2.2.2.2.2.2.2.2.2.2.2.2.2.2.1 e1).2 c26).2 c27)
    · refine Y_at (pc := 218) (by rw [e1]; rfl) ?_
      refine a_iload_n dX12_twoOf_218 rfl rfl ?_
      refine a_if_ne (tgt := 226) dX12_twoOf_219 (by decide) ⟨fun c28 => ?_, fun c28 => ?_⟩
      · refine a_iconst (k := 1) dX12_twoOf_226 (n_lit (by decide)) ?_
        refine a_goto (tgt := 231) dX12_twoOf_227 (by decide) ?_
        exact a_iret dX12_twoOf_231 ((h.2.2.2.2.2.2.2.2.2.2.2.2.2.2.2.2.1 e1).1 c28)
      · refine a_iload_n dX12_twoOf_222 rfl rfl ?_
        refine a_if_eq (tgt := 230) dX12_twoOf_223 (by decide) ⟨fun c29 => ?_, fun c29 => ?_⟩
        · refine a_iconst (k := 0) dX12_twoOf_230 (n_lit (by decide)) ?_
          exact a_iret dX12_twoOf_231 (((h.2.2.2.2.2.2.2.2.2.2.2.2.2.2.2.2.1 e1).2 c28).1 c29)
        · refine a_iconst (k := 1) dX12_twoOf_226 (n_lit (by decide)) ?_
          refine a_goto (tgt := 231) dX12_twoOf_227 (by decide) ?_
          exact a_iret dX12_twoOf_231 (((h.2.2.2.2.2.2.2.2.2.2.2.2.2.2.2.2.1 e1).2 c28).2 c29)
    · refine Y_at (pc := 218) (by rw [e1]; rfl) ?_
      refine a_iload_n dX12_twoOf_218 rfl rfl ?_
      refine a_if_ne (tgt := 226) dX12_twoOf_219 (by decide) ⟨fun c30 => ?_, fun c30 => ?_⟩
      · refine a_iconst (k := 1) dX12_twoOf_226 (n_lit (by decide)) ?_
        refine a_goto (tgt := 231) dX12_twoOf_227 (by decide) ?_
        exact a_iret dX12_twoOf_231 ((h.2.2.2.2.2.2.2.2.2.2.2.2.2.2.2.2.2.1 e1).1 c30)
      · refine a_iload_n dX12_twoOf_222 rfl rfl ?_
        refine a_if_eq (tgt := 230) dX12_twoOf_223 (by decide) ⟨fun c31 => ?_, fun c31 => ?_⟩
        · refine a_iconst (k := 0) dX12_twoOf_230 (n_lit (by decide)) ?_
          exact a_iret dX12_twoOf_231 (((h.2.2.2.2.2.2.2.2.2.2.2.2.2.2.2.2.2.1 e1).2 c30).1 c31)
        · refine a_iconst (k := 1) dX12_twoOf_226 (n_lit (by decide)) ?_
          refine a_goto (tgt := 231) dX12_twoOf_227 (by decide) ?_
          exact a_iret dX12_twoOf_231 (((h.2.2.2.2.2.2.2.2.2.2.2.2.2.2.2.2.2.1 e1).2 c30).2 c31)
    · refine Y_at (pc := 218) (by rw [e1]; rfl) ?_
      refine a_iload_n dX12_twoOf_218 rfl rfl ?_
      refine a_if_ne (tgt := 226) dX12_twoOf_219 (by decide) ⟨fun c32 => ?_, fun c32 => ?_⟩
      · refine a_iconst (k := 1) dX12_twoOf_226 (n_lit (by decide)) ?_
        refine a_goto (tgt := 231) dX12_twoOf_227 (by decide) ?_
        exact a_iret dX12_twoOf_231 ((h.2.2.2.2.2.2.2.2.2.2.2.2.2.2.2.2.2.2.1 e1).1 c32)
      · refine a_iload_n dX12_twoOf_222 rfl rfl ?_
        refine a_if_eq (tgt := 230) dX12_twoOf_223 (by decide) ⟨fun c33 => ?_, fun c33 => ?_⟩
        · refine a_iconst (k := 0) dX12_twoOf_230 (n_lit (by decide)) ?_
          exact a_iret dX12_twoOf_231 (((h.2.2.2.2.2.2.2.2.2.2.2.2.2.2.2.2.2.2.1 e1).2 c32).1 c33)
        · refine a_iconst (k := 1) dX12_twoOf_226 (n_lit (by decide)) ?_
          refine a_goto (tgt := 231) dX12_twoOf_227 (by decide) ?_
          exact a_iret dX12_twoOf_231 (((h.2.2.2.2.2.2.2.2.2.2.2.2.2.2.2.2.2.2.1 e1).2 c32).2 c33)
    · refine Y_at (pc := 218) (by rw [e1]; rfl) ?_
      refine a_iload_n dX12_twoOf_218 rfl rfl ?_
      refine a_if_ne (tgt := 226) dX12_twoOf_219 (by decide) ⟨fun c34 => ?_, fun c34 => ?_⟩
      · refine a_iconst (k := 1) dX12_twoOf_226 (n_lit (by decide)) ?_
        refine a_goto (tgt := 231) dX12_twoOf_227 (by decide) ?_
        exact a_iret dX12_twoOf_231 ((h.2.2.2.2.2.2.2.2.2.2.2.2.2.2.2.2.2.2.2.1 e1).1 c34)
      · refine a_iload_n dX12_twoOf_222 rfl rfl ?_
        refine a_if_eq (tgt := 230) dX12_twoOf_223 (by decide) ⟨fun c35 => ?_, fun c35 => ?_⟩
        · refine a_iconst (k := 0) dX12_twoOf_230 (n_lit (by decide)) ?_
          exact a_iret dX12_twoOf_231 (((h.2.2.2.2.2.2.2.2.2.2.2.2.2.2.2.2.2.2.2.1 e1).2 c34).1 c35)
        · refine a_iconst (k := 1) dX12_twoOf_226 (n_lit (by decide)) ?_
          refine a_goto (tgt := 231) dX12_twoOf_227 (by decide) ?_
          exact a_iret dX12_twoOf_231 (((h.2.2.2.2.2.2.2.2.2.2.2.2.2.2.2.2.2.2.2.1 e1).2 c34).2 c35)
    · refine Y_at (pc := 218) (by rw [e1]; rfl) ?_
      refine a_iload_n dX12_twoOf_218 rfl rfl ?_
      refine a_if_ne (tgt := 226) dX12_twoOf_219 (by decide) ⟨fun c36 => ?_, fun c36 => ?_⟩
      · refine a_iconst (k := 1) dX12_twoOf_226 (n_lit (by decide)) ?_
        refine a_goto (tgt := 231) dX12_twoOf_227 (by decide) ?_
        exact a_iret dX12_twoOf_231 ((h.2.2.2.2.2.2.2.2.2.2.2.2.2.2.2.2.2.2.2.2.1 e1).1 c36)
      · refine a_iload_n dX12_twoOf_222 rfl rfl ?_
        refine a_if_eq (tgt := 230) dX12_twoOf_223 (by decide) ⟨fun c37 => ?_, fun c37 => ?_⟩
        · refine a_iconst (k := 0) dX12_twoOf_230 (n_lit (by decide)) ?_
          exact a_iret dX12_twoOf_231 (((h.2.2.2.2.2.2.2.2.2.2.2.2.2.2.2.2.2.2.2.2.1 e1).2 c36).1 c37)
        · refine a_iconst (k := 1) dX12_twoOf_226 (n_lit (by decide)) ?_
          refine a_goto (tgt := 231) dX12_twoOf_227 (by decide) ?_
          exact a_iret dX12_twoOf_231 (((h.2.2.2.2.2.2.2.2.2.2.2.2.2.2.2.2.2.2.2.2.1 e1).2 c36).2 c37)
    · refine Y_at (pc := 218) (by rw [e1]; rfl) ?_
      refine a_iload_n dX12_twoOf_218 rfl rfl ?_
      refine a_if_ne (tgt := 226) dX12_twoOf_219 (by decide) ⟨fun c38 => ?_, fun c38 => ?_⟩
      · refine a_iconst (k := 1) dX12_twoOf_226 (n_lit (by decide)) ?_
        refine a_goto (tgt := 231) dX12_twoOf_227 (by decide) ?_
        exact a_iret dX12_twoOf_231 ((h.2.2.2.2.2.2.2.2.2.2.2.2.2.2.2.2.2.2.2.2.2.1 e1).1 c38)
      · refine a_iload_n dX12_twoOf_222 rfl rfl ?_
        refine a_if_eq (tgt := 230) dX12_twoOf_223 (by decide) ⟨fun c39 => ?_, fun c39 => ?_⟩
        · refine a_iconst (k := 0) dX12_twoOf_230 (n_lit (by decide)) ?_
          exact a_iret dX12_twoOf_231 (((h.2.2.2.2.2.2.2.2.2.2.2.2.2.2.2.2.2.2.2.2.2.1 e1).2 c38).1 c39)
        · refine a_iconst (k := 1) dX12_twoOf_226 (n_lit (by decide)) ?_
          refine a_goto (tgt := 231) dX12_twoOf_227 (by decide) ?_
          exact a_iret dX12_twoOf_231 (((h.2.2.2.2.2.2.2.2.2.2.2.2.2.2.2.2.2.2.2.2.2.1 e1).2 c38).2 c39)
    · refine Y_at (pc := 218) (by rw [e1]; rfl) ?_
      refine a_iload_n dX12_twoOf_218 rfl rfl ?_
      refine a_if_ne (tgt := 226) dX12_twoOf_219 (by decide) ⟨fun c40 => ?_, fun c40 => ?_⟩
      · refine a_iconst (k := 1) dX12_twoOf_226 (n_lit (by decide)) ?_
        refine a_goto (tgt := 231) dX12_twoOf_227 (by decide) ?_
        exact a_iret dX12_twoOf_231 ((h.2.2.2.2.2.2.2.2.2.2.2.2.2.2.2.2.2.2.2.2.2.2.1 e1).1 c40)
      · refine a_iload_n dX12_twoOf_222 rfl rfl ?_
        refine a_if_eq (tgt := 230) dX12_twoOf_223 (by decide) ⟨fun c41 => ?_, fun c41 => ?_⟩
        · refine a_iconst (k := 0) dX12_twoOf_230 (n_lit (by decide)) ?_
          exact a_iret dX12_twoOf_231 (((h.2.2.2.2.2.2.2.2.2.2.2.2.2.2.2.2.2.2.2.2.2.2.1 e1).2 c40).1 c41)
        · refine a_iconst (k := 1) dX12_twoOf_226 (n_lit (by decide)) ?_
          refine a_goto (tgt := 231) dX12_twoOf_227 (by decide) ?_
          exact a_iret dX12_twoOf_231 (((h.2.2.2.2.2.2.2.2.2.2.2.2.2.2.2.2.2.2.2.2.2.2.1 e1).2 c40).2 c41)
    · refine Y_at (pc := 171) (by rw [e1]; rfl) ?_
      refine a_iload_n dX12_twoOf_171 rfl rfl ?_
      refine a_iload_n dX12_twoOf_172 rfl rfl ?_
      refine a_icmp_ge (tgt := 180) dX12_twoOf_173 (by decide) ⟨fun c42 => ?_, fun c42 => ?_⟩
      · refine a_iconst (k := 0) dX12_twoOf_180 (n_lit (by decide)) ?_
        exact a_iret dX12_twoOf_181 ((h.2.2.2.2.2.2.2.2.2.2.2.2.2.2.2.2.2.2.2.2.2.2.2.1 e1).1 c42)
      · refine a_iconst (k := 1) dX12_twoOf_176 (n_lit (by decide)) ?_
        refine a_goto (tgt := 181) dX12_twoOf_177 (by decide) ?_
        exact a_iret dX12_twoOf_181 ((h.2.2.2.2.2.2.2.2.2.2.2.2.2.2.2.2.2.2.2.2.2.2.2.1 e1).2 c42)
    · refine Y_at (pc := 182) (by rw [e1]; rfl) ?_
      refine a_iload_n dX12_twoOf_182 rfl rfl ?_
      refine a_iload_n dX12_twoOf_183 rfl rfl ?_
      refine a_icmp_ne (tgt := 191) dX12_twoOf_184 (by decide) ⟨fun c43 => ?_, fun c43 => ?_⟩
      · refine a_iconst (k := 0) dX12_twoOf_191 (n_lit (by decide)) ?_
        exact a_iret dX12_twoOf_192 ((h.2.2.2.2.2.2.2.2.2.2.2.2.2.2.2.2.2.2.2.2.2.2.2.2.1 e1).1 c43)
      · refine a_iconst (k := 1) dX12_twoOf_187 (n_lit (by decide)) ?_
        refine a_goto (tgt := 192) dX12_twoOf_188 (by decide) ?_
        exact a_iret dX12_twoOf_192 ((h.2.2.2.2.2.2.2.2.2.2.2.2.2.2.2.2.2.2.2.2.2.2.2.2.1 e1).2 c43)
    · refine Y_at (pc := 193) (by rw [e1]; rfl) ?_
      refine a_iload_n dX12_twoOf_193 rfl rfl ?_
      refine a_iload_n dX12_twoOf_194 rfl rfl ?_
      refine a_icmp_le (tgt := 202) dX12_twoOf_195 (by decide) ⟨fun c44 => ?_, fun c44 => ?_⟩
      · refine a_iconst (k := 0) dX12_twoOf_202 (n_lit (by decide)) ?_
        exact a_iret dX12_twoOf_203 ((h.2.2.2.2.2.2.2.2.2.2.2.2.2.2.2.2.2.2.2.2.2.2.2.2.2.1 e1).1 c44)
      · refine a_iconst (k := 1) dX12_twoOf_198 (n_lit (by decide)) ?_
        refine a_goto (tgt := 203) dX12_twoOf_199 (by decide) ?_
        exact a_iret dX12_twoOf_203 ((h.2.2.2.2.2.2.2.2.2.2.2.2.2.2.2.2.2.2.2.2.2.2.2.2.2.1 e1).2 c44)
  · refine a_iload_n dX12_twoOf_218 rfl rfl ?_
    refine a_if_ne (tgt := 226) dX12_twoOf_219 (by decide) ⟨fun c46 => ?_, fun c46 => ?_⟩
    · refine a_iconst (k := 1) dX12_twoOf_226 (n_lit (by decide)) ?_
      refine a_goto (tgt := 231) dX12_twoOf_227 (by decide) ?_
      exact a_iret dX12_twoOf_231 ((h.2.2.2.2.2.2.2.2.2.2.2.2.2.2.2.2.2.2.2.2.2.2.2.2.2.2 e45).1 c46)
    · refine a_iload_n dX12_twoOf_222 rfl rfl ?_
      refine a_if_eq (tgt := 230) dX12_twoOf_223 (by decide) ⟨fun c47 => ?_, fun c47 => ?_⟩
      · refine a_iconst (k := 0) dX12_twoOf_230 (n_lit (by decide)) ?_
        exact a_iret dX12_twoOf_231 (((h.2.2.2.2.2.2.2.2.2.2.2.2.2.2.2.2.2.2.2.2.2.2.2.2.2.2 e45).2 c46).1 c47)
      · refine a_iconst (k := 1) dX12_twoOf_226 (n_lit (by decide)) ?_
        refine a_goto (tgt := 231) dX12_twoOf_227 (by decide) ?_
        exact a_iret dX12_twoOf_231 (((h.2.2.2.2.2.2.2.2.2.2.2.2.2.2.2.2.2.2.2.2.2.2.2.2.2.2 e45).2 c46).2 c47)
set_option maxRecDepth 10000 in
theorem sg_X12_worked_0 {d : Nat} {sx : Option (List Int)} (a1 : Int) (a2 : Int) (a3 : Int) (mem : AMem) (Q : Option AV → AMem → Prop) (h : Y cX12_worked 7 RX12 (d + 1) sx 12 [some (vr 12 0), some (vi a1), some (vi a2), some (vi a3), some (vi 0), some (vi (w32 ((w32 (130 * a1)) + a2))), none] [] mem Q) : Y cX12_worked 7 RX12 (d + 1) sx 0 [some (vr 12 0), some (vi a1), some (vi a2), some (vi a3), none, none, none] [] mem Q := by
  refine a_iconst (k := 0) dX12_worked_0 (n_lit (by decide)) ?_
  refine a_istore dX12_worked_1 (by decide) rfl ?_
  refine a_sipush (k := 130) dX12_worked_3 (by decide) (n_lit (by decide)) ?_
  refine a_iload_n dX12_worked_6 rfl rfl ?_
  refine a_imul dX12_worked_7 ?_
  refine a_iload_n dX12_worked_8 rfl rfl ?_
  refine a_iadd dX12_worked_9 ?_
  refine a_istore dX12_worked_10 (by decide) rfl ?_
  exact h
set_option maxRecDepth 10000 in
theorem sg_X12_worked_12 {d : Nat} {sx : Option (List Int)} (a1 : Int) (a2 : Int) (a3 : Int) (a4 : Int) (a5 : Int) (mem : AMem) (Q : Option AV → AMem → Prop) (h : ((w32 ((w32 (130 * a1)) + a3)) ≤ a5 → ((0 ≤ (0 : Int) ∧ (0 : Int) < 130) ∧ (Q (some (vi (mem 1325 0 0))) mem))) ∧ (¬ (w32 ((w32 (130 * a1)) + a3)) ≤ a5 → ((0 ≤ a5 ∧ a5 < 260) ∧ (((mem 1319 0 a5) = (1 : Int) → (Y cX12_worked 7 RX12 (d + 1) sx 45 [some (vr 12 0), some (vi a1), some (vi a2), some (vi a3), some (vi a4), some (vi a5), some (vi (mem 1319 0 a5))] [] mem Q)) ∧ (¬ (mem 1319 0 a5) = (1 : Int) → (((mem 1319 0 a5) ≠ (2 : Int) → (((mem 1319 0 a5) ≠ (3 : Int) → (((mem 1319 0 a5) ≠ (4 : Int) → ((0 ≤ (w32 ((w32 (a4 + (-1))) - 1)) ∧ (w32 ((w32 (a4 + (-1))) - 1)) < 130) ∧ ((0 ≤ (w32 (a4 + (-1))) ∧ (w32 (a4 + (-1))) < 130) ∧ (MtX yX12_twoOf cX12_twoOf 3 (some .int) d [vi (mem 1319 0 a5), vi (mem 1325 0 (w32 ((w32 (a4 + (-1))) - 1))), vi (mem 1325 0 (w32 (a4 + (-1))))] mem (fun r m6 => ∃ x8 : Int, r = some (vi x8) ∧ ((0 ≤ (w32 ((w32 (a4 + (-1))) - 1)) ∧ (w32 ((w32 (a4 + (-1))) - 1)) < 130) ∧ (Y cX12_worked 7 RX12 (d + 1) sx 12 [some (vr 12 0), some (vi a1), some (vi a2), some (vi a3), some (vi (w32 (a4 + (-1)))), some (vi (w32 (a5 + 1))), some (vi (mem 1319 0 a5))] [] (upM m6 1325 0 (w32 ((w32 (a4 + (-1))) - 1)) x8) Q))))))) ∧ ((mem 1319 0 a5) = (4 : Int) → ((0 ≤ (w32 (a4 - 1)) ∧ (w32 (a4 - 1)) < 130) ∧ ((0 ≤ (w32 (a4 - 1)) ∧ (w32 (a4 - 1)) < 130) ∧ (Y cX12_worked 7 RX12 (d + 1) sx 12 [some (vr 12 0), some (vi a1), some (vi a2), some (vi a3), some (vi a4), some (vi (w32 (a5 + 1))), some (vi (mem 1319 0 a5))] [] (upM mem 1325 0 (w32 (a4 - 1)) (w32 (-(mem 1325 0 (w32 (a4 - 1)))))) Q)))))) ∧ ((mem 1319 0 a5) = (3 : Int) → ((0 ≤ (w32 (a4 - 1)) ∧ (w32 (a4 - 1)) < 130) ∧ (((mem 1325 0 (w32 (a4 - 1))) ≠ (0 : Int) → ((0 ≤ (w32 (a4 - 1)) ∧ (w32 (a4 - 1)) < 130) ∧ (Y cX12_worked 7 RX12 (d + 1) sx 12 [some (vr 12 0), some (vi a1), some (vi a2), some (vi a3), some (vi a4), some (vi (w32 (a5 + 1))), some (vi (mem 1319 0 a5))] [] (upM mem 1325 0 (w32 (a4 - 1)) 0) Q))) ∧ ((mem 1325 0 (w32 (a4 - 1))) = (0 : Int) → ((0 ≤ (w32 (a4 - 1)) ∧ (w32 (a4 - 1)) < 130) ∧ (Y cX12_worked 7 RX12 (d + 1) sx 12 [some (vr 12 0), some (vi a1), some (vi a2), some (vi a3), some (vi a4), some (vi (w32 (a5 + 1))), some (vi (mem 1319 0 a5))] [] (upM mem 1325 0 (w32 (a4 - 1)) 1) Q)))))))) ∧ ((mem 1319 0 a5) = (2 : Int) → (Y cX12_worked 7 RX12 (d + 1) sx 45 [some (vr 12 0), some (vi a1), some (vi a2), some (vi a3), some (vi a4), some (vi a5), some (vi (mem 1319 0 a5))] [] mem Q)))))))) : Y cX12_worked 7 RX12 (d + 1) sx 12 [some (vr 12 0), some (vi a1), some (vi a2), some (vi a3), some (vi a4), some (vi a5), none] [] mem Q := by
  refine a_iload dX12_worked_12 rfl ?_
  refine a_sipush (k := 130) dX12_worked_14 (by decide) (n_lit (by decide)) ?_
  refine a_iload_n dX12_worked_17 rfl rfl ?_
  refine a_imul dX12_worked_18 ?_
  refine a_iload_n dX12_worked_19 rfl rfl ?_
  refine a_iadd dX12_worked_20 ?_
  refine a_icmp_ge (tgt := 188) dX12_worked_21 (by decide) ⟨fun c1 => ?_, fun c1 => ?_⟩
  · refine a_aload_n dX12_worked_188 rfl rfl ?_
    refine gf_X12_60 dX12_worked_189 ?_
    refine a_iconst (k := 0) dX12_worked_192 (n_lit (by decide)) ?_
    refine a_iald rfl rfl (by decide) rfl dX12_worked_193 ⟨(h.1 c1).1, ?_⟩
    exact a_iret dX12_worked_194 (h.1 c1).2
  · refine a_aload_n dX12_worked_24 rfl rfl ?_
    refine gf_X12_41 dX12_worked_25 ?_
    refine a_iload dX12_worked_28 rfl ?_
    refine a_bald rfl rfl (by decide) rfl dX12_worked_30 ⟨(h.2 c1).1, ?_⟩
    refine a_istore dX12_worked_31 (by decide) rfl ?_
    refine a_iload dX12_worked_33 rfl ?_
    refine a_iconst (k := 1) dX12_worked_35 (n_lit (by decide)) ?_
    refine a_icmp_eq (tgt := 45) dX12_worked_36 (by decide) ⟨fun c2 => ?_, fun c2 => ?_⟩
    · exact ((h.2 c1).2.1 c2)
    · refine a_iload dX12_worked_39 rfl ?_
      refine a_iconst (k := 2) dX12_worked_41 (n_lit (by decide)) ?_
      refine a_icmp_ne (tgt := 86) dX12_worked_42 (by decide) ⟨fun c3 => ?_, fun c3 => ?_⟩
      · refine a_iload dX12_worked_86 rfl ?_
        refine a_iconst (k := 3) dX12_worked_88 (n_lit (by decide)) ?_
        refine a_icmp_ne (tgt := 121) dX12_worked_89 (by decide) ⟨fun c4 => ?_, fun c4 => ?_⟩
        · refine a_iload dX12_worked_121 rfl ?_
          refine a_iconst (k := 4) dX12_worked_123 (n_lit (by decide)) ?_
          refine a_icmp_ne (tgt := 149) dX12_worked_124 (by decide) ⟨fun c5 => ?_, fun c5 => ?_⟩
          · refine a_iinc dX12_worked_149 rfl (by decide) rfl ?_
            refine a_aload_n dX12_worked_152 rfl rfl ?_
            refine gf_X12_60 dX12_worked_153 ?_
            refine a_iload dX12_worked_156 rfl ?_
            refine a_iconst (k := 1) dX12_worked_158 (n_lit (by decide)) ?_
            refine a_isub dX12_worked_159 ?_
            refine a_iload dX12_worked_160 rfl ?_
            refine a_aload_n dX12_worked_162 rfl rfl ?_
            refine gf_X12_60 dX12_worked_163 ?_
            refine a_iload dX12_worked_166 rfl ?_
            refine a_iconst (k := 1) dX12_worked_168 (n_lit (by decide)) ?_
            refine a_isub dX12_worked_169 ?_
            refine a_iald rfl rfl (by decide) rfl dX12_worked_170 ⟨(((((h.2 c1).2.2 c2).1 c3).1 c4).1 c5).1, ?_⟩
            refine a_aload_n dX12_worked_171 rfl rfl ?_
            refine gf_X12_60 dX12_worked_172 ?_
            refine a_iload dX12_worked_175 rfl ?_
            refine a_iald rfl rfl (by decide) rfl dX12_worked_177 ⟨(((((h.2 c1).2.2 c2).1 c3).1 c4).1 c5).2.1, ?_⟩
            refine iv_X12_233 dX12_worked_178 (Nat.le_of_ble_eq_true rfl) (MtX_mono (((((h.2 c1).2.2 c2).1 c3).1 c4).1 c5).2.2 (fun r m6 hq => ?_))
            obtain ⟨x8, rfl, h7⟩ := hq
            refine ⟨x8, rfl, ?_⟩
            refine a_iast rfl rfl (by decide) rfl dX12_worked_181 ⟨h7.1, ?_⟩
            refine a_iinc dX12_worked_182 rfl (by decide) rfl ?_
            refine a_goto (tgt := 12) dX12_worked_185 (by decide) ?_
            exact h7.2
          · refine a_aload_n dX12_worked_127 rfl rfl ?_
            refine gf_X12_60 dX12_worked_128 ?_
            refine a_iload dX12_worked_131 rfl ?_
            refine a_iconst (k := 1) dX12_worked_133 (n_lit (by decide)) ?_
            refine a_isub dX12_worked_134 ?_
            refine a_aload_n dX12_worked_135 rfl rfl ?_
            refine gf_X12_60 dX12_worked_136 ?_
            refine a_iload dX12_worked_139 rfl ?_
            refine a_iconst (k := 1) dX12_worked_141 (n_lit (by decide)) ?_
            refine a_isub dX12_worked_142 ?_
            refine a_iald rfl rfl (by decide) rfl dX12_worked_143 ⟨(((((h.2 c1).2.2 c2).1 c3).1 c4).2 c5).1, ?_⟩
            refine a_ineg dX12_worked_144 ?_
            refine a_iast rfl rfl (by decide) rfl dX12_worked_145 ⟨(((((h.2 c1).2.2 c2).1 c3).1 c4).2 c5).2.1, ?_⟩
            refine a_goto (tgt := 182) dX12_worked_146 (by decide) ?_
            refine a_iinc dX12_worked_182 rfl (by decide) rfl ?_
            refine a_goto (tgt := 12) dX12_worked_185 (by decide) ?_
            exact (((((h.2 c1).2.2 c2).1 c3).1 c4).2 c5).2.2
        · refine a_aload_n dX12_worked_92 rfl rfl ?_
          refine gf_X12_60 dX12_worked_93 ?_
          refine a_iload dX12_worked_96 rfl ?_
          refine a_iconst (k := 1) dX12_worked_98 (n_lit (by decide)) ?_
          refine a_isub dX12_worked_99 ?_
          refine a_aload_n dX12_worked_100 rfl rfl ?_
          refine gf_X12_60 dX12_worked_101 ?_
          refine a_iload dX12_worked_104 rfl ?_
          refine a_iconst (k := 1) dX12_worked_106 (n_lit (by decide)) ?_
          refine a_isub dX12_worked_107 ?_
          refine a_iald rfl rfl (by decide) rfl dX12_worked_108 ⟨((((h.2 c1).2.2 c2).1 c3).2 c4).1, ?_⟩
          refine a_if_ne (tgt := 116) dX12_worked_109 (by decide) ⟨fun c9 => ?_, fun c9 => ?_⟩
          · refine a_iconst (k := 0) dX12_worked_116 (n_lit (by decide)) ?_
            refine a_iast rfl rfl (by decide) rfl dX12_worked_117 ⟨(((((h.2 c1).2.2 c2).1 c3).2 c4).2.1 c9).1, ?_⟩
            refine a_goto (tgt := 182) dX12_worked_118 (by decide) ?_
            refine a_iinc dX12_worked_182 rfl (by decide) rfl ?_
            refine a_goto (tgt := 12) dX12_worked_185 (by decide) ?_
            exact (((((h.2 c1).2.2 c2).1 c3).2 c4).2.1 c9).2
          · refine a_iconst (k := 1) dX12_worked_112 (n_lit (by decide)) ?_
            refine a_goto (tgt := 117) dX12_worked_113 (by decide) ?_
            refine a_iast rfl rfl (by decide) rfl dX12_worked_117 ⟨(((((h.2 c1).2.2 c2).1 c3).2 c4).2.2 c9).1, ?_⟩
            refine a_goto (tgt := 182) dX12_worked_118 (by decide) ?_
            refine a_iinc dX12_worked_182 rfl (by decide) rfl ?_
            refine a_goto (tgt := 12) dX12_worked_185 (by decide) ?_
            exact (((((h.2 c1).2.2 c2).1 c3).2 c4).2.2 c9).2
      · exact (((h.2 c1).2.2 c2).2 c3)
set_option maxRecDepth 10000 in
theorem sg_X12_worked_45 {d : Nat} {sx : Option (List Int)} (a1 : Int) (a2 : Int) (a3 : Int) (a4 : Int) (a5 : Int) (a6 : Int) (mem : AMem) (Q : Option AV → AMem → Prop) (h : (a6 ≠ (1 : Int) → ((0 ≤ a5 ∧ a5 < 260) ∧ ((0 ≤ (mem 1320 0 a5) ∧ (mem 1320 0 a5) < 6) ∧ ((0 ≤ a4 ∧ a4 < 130) ∧ (Y cX12_worked 7 RX12 (d + 1) sx 12 [some (vr 12 0), some (vi a1), some (vi a2), some (vi a3), some (vi (w32 (a4 + 1))), some (vi (w32 (a5 + 1))), some (vi a6)] [] (upM mem 1325 0 a4 (mem 1324 0 (mem 1320 0 a5))) Q))))) ∧ (a6 = (1 : Int) → ((0 ≤ a5 ∧ a5 < 260) ∧ ((0 ≤ a4 ∧ a4 < 130) ∧ (Y cX12_worked 7 RX12 (d + 1) sx 12 [some (vr 12 0), some (vi a1), some (vi a2), some (vi a3), some (vi (w32 (a4 + 1))), some (vi (w32 (a5 + 1))), some (vi a6)] [] (upM mem 1325 0 a4 (mem 1320 0 a5)) Q))))) : Y cX12_worked 7 RX12 (d + 1) sx 45 [some (vr 12 0), some (vi a1), some (vi a2), some (vi a3), some (vi a4), some (vi a5), some (vi a6)] [] mem Q := by
  refine a_aload_n dX12_worked_45 rfl rfl ?_
  refine gf_X12_60 dX12_worked_46 ?_
  refine a_iload dX12_worked_49 rfl ?_
  refine a_iload dX12_worked_51 rfl ?_
  refine a_iconst (k := 1) dX12_worked_53 (n_lit (by decide)) ?_
  refine a_icmp_ne (tgt := 67) dX12_worked_54 (by decide) ⟨fun c1 => ?_, fun c1 => ?_⟩
  · refine a_aload_n dX12_worked_67 rfl rfl ?_
    refine gf_X12_57 dX12_worked_68 ?_
    refine a_aload_n dX12_worked_71 rfl rfl ?_
    refine gf_X12_44 dX12_worked_72 ?_
    refine a_iload dX12_worked_75 rfl ?_
    refine a_iald rfl rfl (by decide) rfl dX12_worked_77 ⟨(h.1 c1).1, ?_⟩
    refine a_iald rfl rfl (by decide) rfl dX12_worked_78 ⟨(h.1 c1).2.1, ?_⟩
    refine a_iast rfl rfl (by decide) rfl dX12_worked_79 ⟨(h.1 c1).2.2.1, ?_⟩
    refine a_iinc dX12_worked_80 rfl (by decide) rfl ?_
    refine a_goto (tgt := 182) dX12_worked_83 (by decide) ?_
    refine a_iinc dX12_worked_182 rfl (by decide) rfl ?_
    refine a_goto (tgt := 12) dX12_worked_185 (by decide) ?_
    exact (h.1 c1).2.2.2
  · refine a_aload_n dX12_worked_57 rfl rfl ?_
    refine gf_X12_44 dX12_worked_58 ?_
    refine a_iload dX12_worked_61 rfl ?_
    refine a_iald rfl rfl (by decide) rfl dX12_worked_63 ⟨(h.2 c1).1, ?_⟩
    refine a_goto (tgt := 79) dX12_worked_64 (by decide) ?_
    refine a_iast rfl rfl (by decide) rfl dX12_worked_79 ⟨(h.2 c1).2.1, ?_⟩
    refine a_iinc dX12_worked_80 rfl (by decide) rfl ?_
    refine a_goto (tgt := 182) dX12_worked_83 (by decide) ?_
    refine a_iinc dX12_worked_182 rfl (by decide) rfl ?_
    refine a_goto (tgt := 12) dX12_worked_185 (by decide) ?_
    exact (h.2 c1).2.2
set_option maxRecDepth 10000 in
theorem sg_X12_gives_0 {d : Nat} {sx : Option (List Int)} (a1 : Int) (mem : AMem) (Q : Option AV → AMem → Prop) (h : Y cX12_gives 4 RX12 (d + 1) sx 7 [some (vr 12 0), some (vi a1), some (vi 0), some (vi (w32 (61 * a1)))] [] mem Q) : Y cX12_gives 4 RX12 (d + 1) sx 0 [some (vr 12 0), some (vi a1), none, none] [] mem Q := by
  refine a_iconst (k := 0) dX12_gives_0 (n_lit (by decide)) ?_
  refine a_istore_n dX12_gives_1 rfl (by decide) rfl ?_
  refine a_bipush (k := 61) dX12_gives_2 (by decide) (n_lit (by decide)) ?_
  refine a_iload_n dX12_gives_4 rfl rfl ?_
  refine a_imul dX12_gives_5 ?_
  refine a_istore_n dX12_gives_6 rfl (by decide) rfl ?_
  exact h
set_option maxRecDepth 10000 in
theorem sg_X12_gives_7 {d : Nat} {sx : Option (List Int)} (a1 : Int) (a2 : Int) (a3 : Int) (mem : AMem) (Q : Option AV → AMem → Prop) (h : (0 ≤ a1 ∧ a1 < 2) ∧ (((w32 ((w32 (61 * a1)) + (mem 1321 0 a1))) ≤ a3 → (Q (some (vi 0)) mem)) ∧ (¬ (w32 ((w32 (61 * a1)) + (mem 1321 0 a1))) ≤ a3 → ((0 ≤ a3 ∧ a3 < 122) ∧ (((mem 1322 0 a3) = a2 → ((0 ≤ a3 ∧ a3 < 122) ∧ ((0 ≤ a3 ∧ a3 < 122) ∧ (MtX yX12_worked cX12_worked 7 (some .int) d [vr 12 0, vi a1, vi (mem 1322 0 a3), vi (mem 1323 0 a3)] mem (fun r m3 => ∃ x5 : Int, r = some (vi x5) ∧ (Q (some (vi x5)) m3)))))) ∧ (¬ (mem 1322 0 a3) = a2 → ((0 ≤ a3 ∧ a3 < 122) ∧ (MtX yX12_worked cX12_worked 7 (some .int) d [vr 12 0, vi a1, vi a2, vi (mem 1322 0 a3)] mem (fun r m6 => ∃ x8 : Int, r = some (vi x8) ∧ ((x8 = (0 : Int) → ((0 ≤ a3 ∧ a3 < 122) ∧ (Y cX12_gives 4 RX12 (d + 1) sx 7 [some (vr 12 0), some (vi a1), some (vi (m6 1323 0 a3)), some (vi (w32 (a3 + 1)))] [] m6 Q))) ∧ (¬ x8 = (0 : Int) → ((0 ≤ a3 ∧ a3 < 122) ∧ ((0 ≤ a3 ∧ a3 < 122) ∧ (MtX yX12_worked cX12_worked 7 (some .int) d [vr 12 0, vi a1, vi (m6 1322 0 a3), vi (m6 1323 0 a3)] m6 (fun r m10 => ∃ x12 : Int, r = some (vi x12) ∧ (Q (some (vi x12)) m10)))))))))))))))) : Y cX12_gives 4 RX12 (d + 1) sx 7 [some (vr 12 0), some (vi a1), some (vi a2), some (vi a3)] [] mem Q := by
  refine a_iload_n dX12_gives_7 rfl rfl ?_
  refine a_bipush (k := 61) dX12_gives_8 (by decide) (n_lit (by decide)) ?_
  refine a_iload_n dX12_gives_10 rfl rfl ?_
  refine a_imul dX12_gives_11 ?_
  refine a_aload_n dX12_gives_12 rfl rfl ?_
  refine gf_X12_47 dX12_gives_13 ?_
  refine a_iload_n dX12_gives_16 rfl rfl ?_
  refine a_iald rfl rfl (by decide) rfl dX12_gives_17 ⟨h.1, ?_⟩
  refine a_iadd dX12_gives_18 ?_
  refine a_icmp_ge (tgt := 78) dX12_gives_19 (by decide) ⟨fun c1 => ?_, fun c1 => ?_⟩
  · refine a_iconst (k := 0) dX12_gives_78 (n_lit (by decide)) ?_
    exact a_iret dX12_gives_79 (h.2.1 c1)
  · refine a_aload_n dX12_gives_22 rfl rfl ?_
    refine gf_X12_50 dX12_gives_23 ?_
    refine a_iload_n dX12_gives_26 rfl rfl ?_
    refine a_sald rfl rfl (by decide) rfl dX12_gives_27 ⟨(h.2.2 c1).1, ?_⟩
    refine a_iload_n dX12_gives_28 rfl rfl ?_
    refine a_icmp_eq (tgt := 47) dX12_gives_29 (by decide) ⟨fun c2 => ?_, fun c2 => ?_⟩
    · refine a_aload_n dX12_gives_47 rfl rfl ?_
      refine a_iload_n dX12_gives_48 rfl rfl ?_
      refine a_aload_n dX12_gives_49 rfl rfl ?_
      refine gf_X12_50 dX12_gives_50 ?_
      refine a_iload_n dX12_gives_53 rfl rfl ?_
      refine a_sald rfl rfl (by decide) rfl dX12_gives_54 ⟨((h.2.2 c1).2.1 c2).1, ?_⟩
      refine a_aload_n dX12_gives_55 rfl rfl ?_
      refine gf_X12_54 dX12_gives_56 ?_
      refine a_iload_n dX12_gives_59 rfl rfl ?_
      refine a_sald rfl rfl (by decide) rfl dX12_gives_60 ⟨((h.2.2 c1).2.1 c2).2.1, ?_⟩
      refine iv_X12_236 dX12_gives_61 (Nat.le_of_ble_eq_true rfl) (MtX_mono ((h.2.2 c1).2.1 c2).2.2 (fun r m3 hq => ?_))
      obtain ⟨x5, rfl, h4⟩ := hq
      refine ⟨x5, rfl, ?_⟩
      exact a_iret dX12_gives_64 h4
    · refine a_aload_n dX12_gives_32 rfl rfl ?_
      refine a_iload_n dX12_gives_33 rfl rfl ?_
      refine a_iload_n dX12_gives_34 rfl rfl ?_
      refine a_aload_n dX12_gives_35 rfl rfl ?_
      refine gf_X12_50 dX12_gives_36 ?_
      refine a_iload_n dX12_gives_39 rfl rfl ?_
      refine a_sald rfl rfl (by decide) rfl dX12_gives_40 ⟨((h.2.2 c1).2.2 c2).1, ?_⟩
      refine iv_X12_236 dX12_gives_41 (Nat.le_of_ble_eq_true rfl) (MtX_mono ((h.2.2 c1).2.2 c2).2 (fun r m6 hq => ?_))
      obtain ⟨x8, rfl, h7⟩ := hq
      refine ⟨x8, rfl, ?_⟩
      refine a_if_eq (tgt := 65) dX12_gives_44 (by decide) ⟨fun c9 => ?_, fun c9 => ?_⟩
      · refine a_aload_n dX12_gives_65 rfl rfl ?_
        refine gf_X12_54 dX12_gives_66 ?_
        refine a_iload_n dX12_gives_69 rfl rfl ?_
        refine a_sald rfl rfl (by decide) rfl dX12_gives_70 ⟨(h7.1 c9).1, ?_⟩
        refine a_istore_n dX12_gives_71 rfl (by decide) rfl ?_
        refine a_iinc dX12_gives_72 rfl (by decide) rfl ?_
        refine a_goto (tgt := 7) dX12_gives_75 (by decide) ?_
        exact (h7.1 c9).2
      · refine a_aload_n dX12_gives_47 rfl rfl ?_
        refine a_iload_n dX12_gives_48 rfl rfl ?_
        refine a_aload_n dX12_gives_49 rfl rfl ?_
        refine gf_X12_50 dX12_gives_50 ?_
        refine a_iload_n dX12_gives_53 rfl rfl ?_
        refine a_sald rfl rfl (by decide) rfl dX12_gives_54 ⟨(h7.2 c9).1, ?_⟩
        refine a_aload_n dX12_gives_55 rfl rfl ?_
        refine gf_X12_54 dX12_gives_56 ?_
        refine a_iload_n dX12_gives_59 rfl rfl ?_
        refine a_sald rfl rfl (by decide) rfl dX12_gives_60 ⟨(h7.2 c9).2.1, ?_⟩
        refine iv_X12_236 dX12_gives_61 (Nat.le_of_ble_eq_true rfl) (MtX_mono (h7.2 c9).2.2 (fun r m10 hq => ?_))
        obtain ⟨x12, rfl, h11⟩ := hq
        refine ⟨x12, rfl, ?_⟩
        exact a_iret dX12_gives_64 h11
set_option maxRecDepth 10000 in
theorem sg_X12_law_0 {d : Nat} {sx : Option (List Int)}  (mem : AMem) (Q : Option AV → AMem → Prop) (h : MtX yX12_readText cX12_readText 3 (some .int) d [vr 12 0, vi 0] mem (fun r m1 => ∃ x3 : Int, r = some (vi x3) ∧ ((x3 < (0 : Int) → (Q (some (vi 1)) (upM m1 12 0 26 1))) ∧ (¬ x3 < (0 : Int) → (Q (some (vi (w32 ((-100) - x3)))) m1))))) : Y cX12_law 2 RX12 (d + 1) sx 0 [some (vr 12 0), none] [] mem Q := by
  refine a_aload_n dX12_law_0 rfl rfl ?_
  refine a_iconst (k := 0) dX12_law_1 (n_lit (by decide)) ?_
  refine iv_X12_239 dX12_law_2 (Nat.le_of_ble_eq_true rfl) (MtX_mono h (fun r m1 hq => ?_))
  obtain ⟨x3, rfl, h2⟩ := hq
  refine ⟨x3, rfl, ?_⟩
  refine a_istore_n dX12_law_5 rfl (by decide) rfl ?_
  refine a_iload_n dX12_law_6 rfl rfl ?_
  refine a_if_lt (tgt := 15) dX12_law_7 (by decide) ⟨fun c4 => ?_, fun c4 => ?_⟩
  · refine a_aload_n dX12_law_15 rfl rfl ?_
    refine a_iconst (k := 1) dX12_law_16 (n_lit (by decide)) ?_
    refine pf_X12_242 (Or.inr rfl) dX12_law_17 ?_
    refine a_iconst (k := 1) dX12_law_20 (n_lit (by decide)) ?_
    exact a_iret dX12_law_21 (h2.1 c4)
  · refine a_bipush (k := (-100)) dX12_law_10 (by decide) (n_lit (by decide)) ?_
    refine a_iload_n dX12_law_12 rfl rfl ?_
    refine a_isub dX12_law_13 ?_
    exact a_iret dX12_law_14 (h2.2 c4)
set_option maxRecDepth 10000 in
theorem sg_X12_beginRaid_0 {d : Nat} {sx : Option (List Int)}  (mem : AMem) (Q : Option AV → AMem → Prop) (h : Y cX12_beginRaid 2 RX12 (d + 1) sx 7 [some (vr 12 0), some (vi 0)] [] (upM mem 12 0 36 0) Q) : Y cX12_beginRaid 2 RX12 (d + 1) sx 0 [some (vr 12 0), none] [] mem Q := by
  refine a_aload_n dX12_beginRaid_0 rfl rfl ?_
  refine a_iconst (k := 0) dX12_beginRaid_1 (n_lit (by decide)) ?_
  refine pf_X12_246 dX12_beginRaid_2 ?_
  refine a_iconst (k := 0) dX12_beginRaid_5 (n_lit (by decide)) ?_
  refine a_istore_n dX12_beginRaid_6 rfl (by decide) rfl ?_
  exact h
set_option maxRecDepth 10000 in
theorem sg_X12_beginRaid_7 {d : Nat} {sx : Option (List Int)} (a1 : Int) (mem : AMem) (Q : Option AV → AMem → Prop) (h : ((mem 12 0 1) ≤ a1 → ((0 ≤ (3 : Int) ∧ (3 : Int) < 10) ∧ (Q none (upM (upM (upM (upM (upM (upM (upM mem 12 0 29 (mem 1306 0 3)) 12 0 30 0) 12 0 31 0) 12 0 32 0) 12 0 33 0) 12 0 34 0) 12 0 35 0)))) ∧ (¬ (mem 12 0 1) ≤ a1 → ((0 ≤ a1 ∧ a1 < 7) ∧ ((0 ≤ a1 ∧ a1 < 7) ∧ ((0 ≤ a1 ∧ a1 < 7) ∧ ((0 ≤ a1 ∧ a1 < 7) ∧ ((0 ≤ a1 ∧ a1 < 7) ∧ (((mem 1305 0 a1) ≠ (1 : Int) → (Y cX12_beginRaid 2 RX12 (d + 1) sx 7 [some (vr 12 0), some (vi (w32 (a1 + 1)))] [] (upM (upM mem 1327 0 a1 (mem 1302 0 a1)) 1328 0 a1 (mem 1303 0 a1)) Q)) ∧ ((mem 1305 0 a1) = (1 : Int) → (Y cX12_beginRaid 2 RX12 (d + 1) sx 7 [some (vr 12 0), some (vi (w32 (a1 + 1)))] [] (upM (upM (upM mem 1327 0 a1 (mem 1302 0 a1)) 1328 0 a1 (mem 1303 0 a1)) 12 0 36 (or_32 (mem 12 0 36) (shl32 1 a1))) Q)))))))))) : Y cX12_beginRaid 2 RX12 (d + 1) sx 7 [some (vr 12 0), some (vi a1)] [] mem Q := by
  refine a_iload_n dX12_beginRaid_7 rfl rfl ?_
  refine a_aload_n dX12_beginRaid_8 rfl rfl ?_
  refine gf_X12_125 (x := mem 12 0 1) rfl dX12_beginRaid_9 ?_
  refine a_icmp_ge (tgt := 67) dX12_beginRaid_12 (by decide) ⟨fun c1 => ?_, fun c1 => ?_⟩
  · refine a_aload_n dX12_beginRaid_67 rfl rfl ?_
    refine a_aload_n dX12_beginRaid_68 rfl rfl ?_
    refine gf_X12_22 dX12_beginRaid_69 ?_
    refine a_iconst (k := 3) dX12_beginRaid_72 (n_lit (by decide)) ?_
    refine a_iald rfl rfl (by decide) rfl dX12_beginRaid_73 ⟨(h.1 c1).1, ?_⟩
    refine pf_X12_249 dX12_beginRaid_74 ?_
    refine a_aload_n dX12_beginRaid_77 rfl rfl ?_
    refine a_iconst (k := 0) dX12_beginRaid_78 (n_lit (by decide)) ?_
    refine pf_X12_252 dX12_beginRaid_79 ?_
    refine a_aload_n dX12_beginRaid_82 rfl rfl ?_
    refine a_iconst (k := 0) dX12_beginRaid_83 (n_lit (by decide)) ?_
    refine pf_X12_255 dX12_beginRaid_84 ?_
    refine a_aload_n dX12_beginRaid_87 rfl rfl ?_
    refine a_iconst (k := 0) dX12_beginRaid_88 (n_lit (by decide)) ?_
    refine pf_X12_258 dX12_beginRaid_89 ?_
    refine a_aload_n dX12_beginRaid_92 rfl rfl ?_
    refine a_iconst (k := 0) dX12_beginRaid_93 (n_lit (by decide)) ?_
    refine pf_X12_261 dX12_beginRaid_94 ?_
    refine a_aload_n dX12_beginRaid_97 rfl rfl ?_
    refine a_iconst (k := 0) dX12_beginRaid_98 (n_lit (by decide)) ?_
    refine pf_X12_264 dX12_beginRaid_99 ?_
    refine a_aload_n dX12_beginRaid_102 rfl rfl ?_
    refine a_iconst (k := 0) dX12_beginRaid_103 (n_lit (by decide)) ?_
    refine pf_X12_267 dX12_beginRaid_104 ?_
    exact a_vret dX12_beginRaid_107 (h.1 c1).2
  · refine a_aload_n dX12_beginRaid_15 rfl rfl ?_
    refine gf_X12_63 dX12_beginRaid_16 ?_
    refine a_iload_n dX12_beginRaid_19 rfl rfl ?_
    refine a_aload_n dX12_beginRaid_20 rfl rfl ?_
    refine gf_X12_7 dX12_beginRaid_21 ?_
    refine a_iload_n dX12_beginRaid_24 rfl rfl ?_
    refine a_iald rfl rfl (by decide) rfl dX12_beginRaid_25 ⟨(h.2 c1).1, ?_⟩
    refine a_iast rfl rfl (by decide) rfl dX12_beginRaid_26 ⟨(h.2 c1).2.1, ?_⟩
    refine a_aload_n dX12_beginRaid_27 rfl rfl ?_
    refine gf_X12_66 dX12_beginRaid_28 ?_
    refine a_iload_n dX12_beginRaid_31 rfl rfl ?_
    refine a_aload_n dX12_beginRaid_32 rfl rfl ?_
    refine gf_X12_13 dX12_beginRaid_33 ?_
    refine a_iload_n dX12_beginRaid_36 rfl rfl ?_
    refine a_iald rfl rfl (by decide) rfl dX12_beginRaid_37 ⟨(h.2 c1).2.2.1, ?_⟩
    refine a_iast rfl rfl (by decide) rfl dX12_beginRaid_38 ⟨(h.2 c1).2.2.2.1, ?_⟩
    refine a_aload_n dX12_beginRaid_39 rfl rfl ?_
    refine gf_X12_19 dX12_beginRaid_40 ?_
    refine a_iload_n dX12_beginRaid_43 rfl rfl ?_
    refine a_iald rfl rfl (by decide) rfl dX12_beginRaid_44 ⟨(h.2 c1).2.2.2.2.1, ?_⟩
    refine a_iconst (k := 1) dX12_beginRaid_45 (n_lit (by decide)) ?_
    refine a_icmp_ne (tgt := 61) dX12_beginRaid_46 (by decide) ⟨fun c2 => ?_, fun c2 => ?_⟩
    · refine a_iinc dX12_beginRaid_61 rfl (by decide) rfl ?_
      refine a_goto (tgt := 7) dX12_beginRaid_64 (by decide) ?_
      exact ((h.2 c1).2.2.2.2.2.1 c2)
    · refine a_aload_n dX12_beginRaid_49 rfl rfl ?_
      refine a_dup dX12_beginRaid_50 rfl ?_
      refine gf_X12_246 (x := mem 12 0 36) rfl dX12_beginRaid_51 ?_
      refine a_iconst (k := 1) dX12_beginRaid_54 (n_lit (by decide)) ?_
      refine a_iload_n dX12_beginRaid_55 rfl rfl ?_
      refine a_ishl dX12_beginRaid_56 ?_
      refine a_ior dX12_beginRaid_57 ?_
      refine pf_X12_246 dX12_beginRaid_58 ?_
      refine a_iinc dX12_beginRaid_61 rfl (by decide) rfl ?_
      refine a_goto (tgt := 7) dX12_beginRaid_64 (by decide) ?_
      exact ((h.2 c1).2.2.2.2.2.2 c2)
set_option maxRecDepth 10000 in
theorem sg_X12_isInNow_0 {d : Nat} {sx : Option (List Int)} (a1 : Int) (mem : AMem) (Q : Option AV → AMem → Prop) (h : ((an32 (shr32 (mem 12 0 36) a1) 1) ≠ (1 : Int) → (Q (some (vi 0)) mem)) ∧ ((an32 (shr32 (mem 12 0 36) a1) 1) = (1 : Int) → (Q (some (vi 1)) mem))) : Y cX12_isInNow 2 RX12 (d + 1) sx 0 [some (vr 12 0), some (vi a1)] [] mem Q := by
  refine a_aload_n dX12_isInNow_0 rfl rfl ?_
  refine gf_X12_246 (x := mem 12 0 36) rfl dX12_isInNow_1 ?_
  refine a_iload_n dX12_isInNow_4 rfl rfl ?_
  refine a_ishr dX12_isInNow_5 ?_
  refine a_iconst (k := 1) dX12_isInNow_6 (n_lit (by decide)) ?_
  refine a_iand dX12_isInNow_7 ?_
  refine a_iconst (k := 1) dX12_isInNow_8 (n_lit (by decide)) ?_
  refine a_icmp_ne (tgt := 16) dX12_isInNow_9 (by decide) ⟨fun c1 => ?_, fun c1 => ?_⟩
  · refine a_iconst (k := 0) dX12_isInNow_16 (n_lit (by decide)) ?_
    exact a_iret dX12_isInNow_17 (h.1 c1)
  · refine a_iconst (k := 1) dX12_isInNow_12 (n_lit (by decide)) ?_
    refine a_goto (tgt := 17) dX12_isInNow_13 (by decide) ?_
    exact a_iret dX12_isInNow_17 (h.2 c1)
set_option maxRecDepth 10000 in
theorem sg_X12_farFrom_0 {d : Nat} {sx : Option (List Int)} (a1 : Int) (mem : AMem) (Q : Option AV → AMem → Prop) (h : (0 ≤ a1 ∧ a1 < 7) ∧ (MtX yX12_apart cX12_apart 2 (some .int) d [vi (mem 1327 0 a1), vi (mem 12 0 29)] mem (fun r m1 => ∃ x3 : Int, r = some (vi x3) ∧ ((0 ≤ a1 ∧ a1 < 7) ∧ (MtX yX12_apart cX12_apart 2 (some .int) d [vi (m1 1328 0 a1), vi (m1 12 0 30)] m1 (fun r m4 => ∃ x6 : Int, r = some (vi x6) ∧ (Q (some (vi (w32 (x3 + x6)))) m4))))))) : Y cX12_farFrom 2 RX12 (d + 1) sx 0 [some (vr 12 0), some (vi a1)] [] mem Q := by
  refine a_aload_n dX12_farFrom_0 rfl rfl ?_
  refine gf_X12_63 dX12_farFrom_1 ?_
  refine a_iload_n dX12_farFrom_4 rfl rfl ?_
  refine a_iald rfl rfl (by decide) rfl dX12_farFrom_5 ⟨h.1, ?_⟩
  refine a_aload_n dX12_farFrom_6 rfl rfl ?_
  refine gf_X12_249 (x := mem 12 0 29) rfl dX12_farFrom_7 ?_
  refine iv_X12_270 dX12_farFrom_10 (Nat.le_of_ble_eq_true rfl) (MtX_mono h.2 (fun r m1 hq => ?_))
  obtain ⟨x3, rfl, h2⟩ := hq
  refine ⟨x3, rfl, ?_⟩
  refine a_aload_n dX12_farFrom_13 rfl rfl ?_
  refine gf_X12_66 dX12_farFrom_14 ?_
  refine a_iload_n dX12_farFrom_17 rfl rfl ?_
  refine a_iald rfl rfl (by decide) rfl dX12_farFrom_18 ⟨h2.1, ?_⟩
  refine a_aload_n dX12_farFrom_19 rfl rfl ?_
  refine gf_X12_252 (x := m1 12 0 30) rfl dX12_farFrom_20 ?_
  refine iv_X12_270 dX12_farFrom_23 (Nat.le_of_ble_eq_true rfl) (MtX_mono h2.2 (fun r m4 hq => ?_))
  obtain ⟨x6, rfl, h5⟩ := hq
  refine ⟨x6, rfl, ?_⟩
  refine a_iadd dX12_farFrom_26 ?_
  exact a_iret dX12_farFrom_27 h5
