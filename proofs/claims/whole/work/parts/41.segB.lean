set_option maxRecDepth 10000 in
theorem sg_X4_isFull_0 {d : Nat} {sx : Option (List Int)}  (mem : AMem) (Q : Option AV → AMem → Prop) (h : ((mem 4 0 1) < (120 : Int) → (Q (some (vi 0)) mem)) ∧ (¬ (mem 4 0 1) < (120 : Int) → (Q (some (vi 1)) mem))) : Y cX4_isFull 1 RX4 (d + 1) sx 0 [some (vr 4 0)] [] mem Q := by
  refine a_aload_n dX4_isFull_0 rfl rfl ?_
  refine gf_X4_20 (x := mem 4 0 1) rfl dX4_isFull_1 ?_
  refine a_bipush (k := 120) dX4_isFull_4 (by decide) (n_lit (by decide)) ?_
  refine a_icmp_lt (tgt := 13) dX4_isFull_6 (by decide) ⟨fun c1 => ?_, fun c1 => ?_⟩
  · refine a_iconst (k := 0) dX4_isFull_13 (n_lit (by decide)) ?_
    exact a_iret dX4_isFull_14 (h.1 c1)
  · refine a_iconst (k := 1) dX4_isFull_9 (n_lit (by decide)) ?_
    refine a_goto (tgt := 14) dX4_isFull_10 (by decide) ?_
    exact a_iret dX4_isFull_14 (h.2 c1)
set_option maxRecDepth 10000 in
theorem sg_X4_add_0 {d : Nat} {sx : Option (List Int)} (a1 : Int) (mem : AMem) (Q : Option AV → AMem → Prop) (h : (0 ≤ (mem 4 0 1) ∧ (mem 4 0 1) < 120) ∧ (Q (some (vi (w32 ((mem 4 0 1) + 1)))) (upM (upM mem 500 0 (mem 4 0 1) a1) 4 0 1 (w32 ((mem 4 0 1) + 1))))) : Y cX4_add 2 RX4 (d + 1) sx 0 [some (vr 4 0), some (vi a1)] [] mem Q := by
  refine a_aload_n dX4_add_0 rfl rfl ?_
  refine gf_X4_9 dX4_add_1 ?_
  refine a_aload_n dX4_add_4 rfl rfl ?_
  refine gf_X4_20 (x := mem 4 0 1) rfl dX4_add_5 ?_
  refine a_iload_n dX4_add_8 rfl rfl ?_
  refine a_iast rfl rfl (by decide) rfl dX4_add_9 ⟨h.1, ?_⟩
  refine a_aload_n dX4_add_10 rfl rfl ?_
  refine a_dup dX4_add_11 rfl ?_
  refine gf_X4_20 (x := mem 4 0 1) rfl dX4_add_12 ?_
  refine a_iconst (k := 1) dX4_add_15 (n_lit (by decide)) ?_
  refine a_iadd dX4_add_16 ?_
  refine pf_X4_20 dX4_add_17 ?_
  refine a_aload_n dX4_add_20 rfl rfl ?_
  refine gf_X4_20 (x := w32 ((mem 4 0 1) + 1)) rfl dX4_add_21 ?_
  exact a_iret dX4_add_24 h.2
set_option maxRecDepth 10000 in
theorem sg_X4_read_0 {d : Nat} {sx : Option (List Int)}  (mem : AMem) (Q : Option AV → AMem → Prop) (h : 0 ≤ mem 4 0 4 ∧ (MtX yX3_clear cX3_clear 1 none d [vr 3 (Int.toNat (mem 4 0 4))] (upM (upM mem 4 0 2 0) 4 0 3 (-1)) (fun r m1 => r = none ∧ (MtX yX4_readLine cX4_readLine 2 none d [vr 4 0] m1 (fun r m3 => r = none ∧ (Y cX4_read 2 RX4 (d + 1) sx 23 [some (vr 4 0), some (vi 0)] [] m3 Q)))))) : Y cX4_read 2 RX4 (d + 1) sx 0 [some (vr 4 0), none] [] mem Q := by
  refine a_aload_n dX4_read_0 rfl rfl ?_
  refine a_iconst (k := 0) dX4_read_1 (n_lit (by decide)) ?_
  refine pf_X4_24 dX4_read_2 ?_
  refine a_aload_n dX4_read_5 rfl rfl ?_
  refine a_iconst (k := (-1)) dX4_read_6 (n_lit (by decide)) ?_
  refine pf_X4_27 dX4_read_7 ?_
  refine a_aload_n dX4_read_10 rfl rfl ?_
  refine gf_X4_16 (x := mem 4 0 4) rfl dX4_read_11 ⟨h.1, ?_⟩
  refine iv_X4_30 dX4_read_14 (Nat.le_of_ble_eq_true rfl) (MtX_mono h.2 (fun r m1 hq => ?_))
  obtain ⟨rfl, h2⟩ := hq
  refine ⟨rfl, ?_⟩
  refine a_aload_n dX4_read_17 rfl rfl ?_
  refine iv_X4_33 dX4_read_18 (Nat.le_of_ble_eq_true rfl) (MtX_mono h2 (fun r m3 hq => ?_))
  obtain ⟨rfl, h4⟩ := hq
  refine ⟨rfl, ?_⟩
  refine a_iconst (k := 0) dX4_read_21 (n_lit (by decide)) ?_
  refine a_istore_n dX4_read_22 rfl (by decide) rfl ?_
  exact h4
set_option maxRecDepth 10000 in
theorem sg_X4_read_23 {d : Nat} {sx : Option (List Int)} (a1 : Int) (mem : AMem) (Q : Option AV → AMem → Prop) (h : ((mem 4 0 1) ≤ a1 → (((mem 4 0 1) ≤ (mem 4 0 2) → (Q (some (vi (mem 4 0 3))) (upM mem 4 0 1 0))) ∧ (¬ (mem 4 0 1) ≤ (mem 4 0 2) → (MtX yX4_fail cX4_fail 1 none d [vr 4 0] mem (fun r m3 => r = none ∧ (Q (some (vi (m3 4 0 3))) (upM m3 4 0 1 0))))))) ∧ (¬ (mem 4 0 1) ≤ a1 → (MtX yX4_takes cX4_takes 3 (some .boolean) d [vr 4 0, vi 59] mem (fun r m5 => ∃ x7 : Int, r = some (vi x7) ∧ ((x7 = (0 : Int) → (((m5 4 0 1) ≤ (m5 4 0 2) → (Q (some (vi (m5 4 0 3))) (upM m5 4 0 1 0))) ∧ (¬ (m5 4 0 1) ≤ (m5 4 0 2) → (MtX yX4_fail cX4_fail 1 none d [vr 4 0] m5 (fun r m10 => r = none ∧ (Q (some (vi (m10 4 0 3))) (upM m10 4 0 1 0))))))) ∧ (¬ x7 = (0 : Int) → (MtX yX4_readLine cX4_readLine 2 none d [vr 4 0] m5 (fun r m12 => r = none ∧ (Y cX4_read 2 RX4 (d + 1) sx 23 [some (vr 4 0), some (vi (w32 (a1 + 1)))] [] m12 Q))))))))) : Y cX4_read 2 RX4 (d + 1) sx 23 [some (vr 4 0), some (vi a1)] [] mem Q := by
  refine a_iload_n dX4_read_23 rfl rfl ?_
  refine a_aload_n dX4_read_24 rfl rfl ?_
  refine gf_X4_20 (x := mem 4 0 1) rfl dX4_read_25 ?_
  refine a_icmp_ge (tgt := 50) dX4_read_28 (by decide) ⟨fun c1 => ?_, fun c1 => ?_⟩
  · refine a_aload_n dX4_read_50 rfl rfl ?_
    refine gf_X4_24 (x := mem 4 0 2) rfl dX4_read_51 ?_
    refine a_aload_n dX4_read_54 rfl rfl ?_
    refine gf_X4_20 (x := mem 4 0 1) rfl dX4_read_55 ?_
    refine a_icmp_ge (tgt := 65) dX4_read_58 (by decide) ⟨fun c2 => ?_, fun c2 => ?_⟩
    · refine a_aload_n dX4_read_65 rfl rfl ?_
      refine a_iconst (k := 0) dX4_read_66 (n_lit (by decide)) ?_
      refine pf_X4_20 dX4_read_67 ?_
      refine a_aload_n dX4_read_70 rfl rfl ?_
      refine gf_X4_27 (x := mem 4 0 3) rfl dX4_read_71 ?_
      exact a_iret dX4_read_74 ((h.1 c1).1 c2)
    · refine a_aload_n dX4_read_61 rfl rfl ?_
      refine iv_X4_40 dX4_read_62 (Nat.le_of_ble_eq_true rfl) (MtX_mono ((h.1 c1).2 c2) (fun r m3 hq => ?_))
      obtain ⟨rfl, h4⟩ := hq
      refine ⟨rfl, ?_⟩
      refine a_aload_n dX4_read_65 rfl rfl ?_
      refine a_iconst (k := 0) dX4_read_66 (n_lit (by decide)) ?_
      refine pf_X4_20 dX4_read_67 ?_
      refine a_aload_n dX4_read_70 rfl rfl ?_
      refine gf_X4_27 (x := m3 4 0 3) rfl dX4_read_71 ?_
      exact a_iret dX4_read_74 h4
  · refine a_aload_n dX4_read_31 rfl rfl ?_
    refine a_bipush (k := 59) dX4_read_32 (by decide) (n_lit (by decide)) ?_
    refine iv_X4_36 dX4_read_34 (Nat.le_of_ble_eq_true rfl) (MtX_mono (h.2 c1) (fun r m5 hq => ?_))
    obtain ⟨x7, rfl, h6⟩ := hq
    refine ⟨x7, rfl, ?_⟩
    refine a_if_eq (tgt := 50) dX4_read_37 (by decide) ⟨fun c8 => ?_, fun c8 => ?_⟩
    · refine a_aload_n dX4_read_50 rfl rfl ?_
      refine gf_X4_24 (x := m5 4 0 2) rfl dX4_read_51 ?_
      refine a_aload_n dX4_read_54 rfl rfl ?_
      refine gf_X4_20 (x := m5 4 0 1) rfl dX4_read_55 ?_
      refine a_icmp_ge (tgt := 65) dX4_read_58 (by decide) ⟨fun c9 => ?_, fun c9 => ?_⟩
      · refine a_aload_n dX4_read_65 rfl rfl ?_
        refine a_iconst (k := 0) dX4_read_66 (n_lit (by decide)) ?_
        refine pf_X4_20 dX4_read_67 ?_
        refine a_aload_n dX4_read_70 rfl rfl ?_
        refine gf_X4_27 (x := m5 4 0 3) rfl dX4_read_71 ?_
        exact a_iret dX4_read_74 ((h6.1 c8).1 c9)
      · refine a_aload_n dX4_read_61 rfl rfl ?_
        refine iv_X4_40 dX4_read_62 (Nat.le_of_ble_eq_true rfl) (MtX_mono ((h6.1 c8).2 c9) (fun r m10 hq => ?_))
        obtain ⟨rfl, h11⟩ := hq
        refine ⟨rfl, ?_⟩
        refine a_aload_n dX4_read_65 rfl rfl ?_
        refine a_iconst (k := 0) dX4_read_66 (n_lit (by decide)) ?_
        refine pf_X4_20 dX4_read_67 ?_
        refine a_aload_n dX4_read_70 rfl rfl ?_
        refine gf_X4_27 (x := m10 4 0 3) rfl dX4_read_71 ?_
        exact a_iret dX4_read_74 h11
    · refine a_aload_n dX4_read_40 rfl rfl ?_
      refine iv_X4_33 dX4_read_41 (Nat.le_of_ble_eq_true rfl) (MtX_mono (h6.2 c8) (fun r m12 hq => ?_))
      obtain ⟨rfl, h13⟩ := hq
      refine ⟨rfl, ?_⟩
      refine a_iinc dX4_read_44 rfl (by decide) rfl ?_
      refine a_goto (tgt := 23) dX4_read_47 (by decide) ?_
      exact h13
set_option maxRecDepth 10000 in
theorem sg_X4_readLine_0 {d : Nat} {sx : Option (List Int)}  (mem : AMem) (Q : Option AV → AMem → Prop) (h : MtX yX4_readRank cX4_readRank 5 none d [vr 4 0, vi 0, vi 0] mem (fun r m1 => r = none ∧ (MtX yX4_takes cX4_takes 3 (some .boolean) d [vr 4 0, vi 63] m1 (fun r m3 => ∃ x5 : Int, r = some (vi x5) ∧ ((x5 = (0 : Int) → (0 ≤ m3 4 0 4 ∧ (MtX yX3_add cX3_add 4 (some .int) d [vr 3 (Int.toNat (m3 4 0 4)), vi 3, vi 0] m3 (fun r m7 => ∃ x9 : Int, r = some (vi x9) ∧ (Q none m7))))) ∧ (¬ x5 = (0 : Int) → (0 ≤ m3 4 0 4 ∧ (MtX yX3_add cX3_add 4 (some .int) d [vr 3 (Int.toNat (m3 4 0 4)), vi 2, vi 0] m3 (fun r m10 => ∃ x12 : Int, r = some (vi x12) ∧ (MtX yX4_readRank cX4_readRank 5 none d [vr 4 0, vi 0, vi 0] m10 (fun r m13 => r = none ∧ (0 ≤ m13 4 0 4 ∧ (MtX yX3_add cX3_add 4 (some .int) d [vr 3 (Int.toNat (m13 4 0 4)), vi 3, vi 0] m13 (fun r m15 => ∃ x17 : Int, r = some (vi x17) ∧ (0 ≤ m15 4 0 4 ∧ (MtX yX3_skipToEndFrom cX3_skipToEndFrom 2 none d [vr 3 (Int.toNat (m15 4 0 4)), vi x12] m15 (fun r m18 => r = none ∧ (Q none m18)))))))))))))))))) : Y cX4_readLine 2 RX4 (d + 1) sx 0 [some (vr 4 0), none] [] mem Q := by
  refine a_aload_n dX4_readLine_0 rfl rfl ?_
  refine a_iconst (k := 0) dX4_readLine_1 (n_lit (by decide)) ?_
  refine a_iconst (k := 0) dX4_readLine_2 (n_lit (by decide)) ?_
  refine iv_X4_43 dX4_readLine_3 (Nat.le_of_ble_eq_true rfl) (MtX_mono h (fun r m1 hq => ?_))
  obtain ⟨rfl, h2⟩ := hq
  refine ⟨rfl, ?_⟩
  refine a_aload_n dX4_readLine_6 rfl rfl ?_
  refine a_bipush (k := 63) dX4_readLine_7 (by decide) (n_lit (by decide)) ?_
  refine iv_X4_36 dX4_readLine_9 (Nat.le_of_ble_eq_true rfl) (MtX_mono h2 (fun r m3 hq => ?_))
  obtain ⟨x5, rfl, h4⟩ := hq
  refine ⟨x5, rfl, ?_⟩
  refine a_if_eq (tgt := 52) dX4_readLine_12 (by decide) ⟨fun c6 => ?_, fun c6 => ?_⟩
  · refine a_aload_n dX4_readLine_52 rfl rfl ?_
    refine gf_X4_16 (x := m3 4 0 4) rfl dX4_readLine_53 ⟨(h4.1 c6).1, ?_⟩
    refine a_iconst (k := 3) dX4_readLine_56 (n_lit (by decide)) ?_
    refine a_iconst (k := 0) dX4_readLine_57 (n_lit (by decide)) ?_
    refine iv_X4_47 dX4_readLine_58 (Nat.le_of_ble_eq_true rfl) (MtX_mono (h4.1 c6).2 (fun r m7 hq => ?_))
    obtain ⟨x9, rfl, h8⟩ := hq
    refine ⟨x9, rfl, ?_⟩
    refine a_pop dX4_readLine_61 rfl ?_
    exact a_vret dX4_readLine_62 h8
  · refine a_aload_n dX4_readLine_15 rfl rfl ?_
    refine gf_X4_16 (x := m3 4 0 4) rfl dX4_readLine_16 ⟨(h4.2 c6).1, ?_⟩
    refine a_iconst (k := 2) dX4_readLine_19 (n_lit (by decide)) ?_
    refine a_iconst (k := 0) dX4_readLine_20 (n_lit (by decide)) ?_
    refine iv_X4_47 dX4_readLine_21 (Nat.le_of_ble_eq_true rfl) (MtX_mono (h4.2 c6).2 (fun r m10 hq => ?_))
    obtain ⟨x12, rfl, h11⟩ := hq
    refine ⟨x12, rfl, ?_⟩
    refine a_istore_n dX4_readLine_24 rfl (by decide) rfl ?_
    refine a_aload_n dX4_readLine_25 rfl rfl ?_
    refine a_iconst (k := 0) dX4_readLine_26 (n_lit (by decide)) ?_
    refine a_iconst (k := 0) dX4_readLine_27 (n_lit (by decide)) ?_
    refine iv_X4_43 dX4_readLine_28 (Nat.le_of_ble_eq_true rfl) (MtX_mono h11 (fun r m13 hq => ?_))
    obtain ⟨rfl, h14⟩ := hq
    refine ⟨rfl, ?_⟩
    refine a_aload_n dX4_readLine_31 rfl rfl ?_
    refine gf_X4_16 (x := m13 4 0 4) rfl dX4_readLine_32 ⟨h14.1, ?_⟩
    refine a_iconst (k := 3) dX4_readLine_35 (n_lit (by decide)) ?_
    refine a_iconst (k := 0) dX4_readLine_36 (n_lit (by decide)) ?_
    refine iv_X4_47 dX4_readLine_37 (Nat.le_of_ble_eq_true rfl) (MtX_mono h14.2 (fun r m15 hq => ?_))
    obtain ⟨x17, rfl, h16⟩ := hq
    refine ⟨x17, rfl, ?_⟩
    refine a_pop dX4_readLine_40 rfl ?_
    refine a_aload_n dX4_readLine_41 rfl rfl ?_
    refine gf_X4_16 (x := m15 4 0 4) rfl dX4_readLine_42 ⟨h16.1, ?_⟩
    refine a_iload_n dX4_readLine_45 rfl rfl ?_
    refine iv_X4_51 dX4_readLine_46 (Nat.le_of_ble_eq_true rfl) (MtX_mono h16.2 (fun r m18 hq => ?_))
    obtain ⟨rfl, h19⟩ := hq
    refine ⟨rfl, ?_⟩
    refine a_goto (tgt := 62) dX4_readLine_49 (by decide) ?_
    exact a_vret dX4_readLine_62 h19
set_option maxRecDepth 10000 in
theorem sg_X4_readRank_0 {d : Nat} {sx : Option (List Int)} (a1 : Int) (a2 : Int) (mem : AMem) (Q : Option AV → AMem → Prop) (h : (a1 ≤ (4 : Int) → (MtX yX4_readRank cX4_readRank 5 none d [vr 4 0, vi (w32 (a1 + 1)), vi a2] mem (fun r m2 => r = none ∧ (Y cX4_readRank 5 RX4 (d + 1) sx 21 [some (vr 4 0), some (vi a1), some (vi a2), some (vi 0), none] [] m2 Q)))) ∧ (¬ a1 ≤ (4 : Int) → (MtX yX4_readOperand cX4_readOperand 3 none d [vr 4 0, vi a2] mem (fun r m4 => r = none ∧ (Q none m4))))) : Y cX4_readRank 5 RX4 (d + 1) sx 0 [some (vr 4 0), some (vi a1), some (vi a2), none, none] [] mem Q := by
  refine a_iload_n dX4_readRank_0 rfl rfl ?_
  refine a_iconst (k := 4) dX4_readRank_1 (n_lit (by decide)) ?_
  refine a_icmp_le (tgt := 11) dX4_readRank_2 (by decide) ⟨fun c1 => ?_, fun c1 => ?_⟩
  · refine a_aload_n dX4_readRank_11 rfl rfl ?_
    refine a_iload_n dX4_readRank_12 rfl rfl ?_
    refine a_iconst (k := 1) dX4_readRank_13 (n_lit (by decide)) ?_
    refine a_iadd dX4_readRank_14 ?_
    refine a_iload_n dX4_readRank_15 rfl rfl ?_
    refine iv_X4_43 dX4_readRank_16 (Nat.le_of_ble_eq_true rfl) (MtX_mono (h.1 c1) (fun r m2 hq => ?_))
    obtain ⟨rfl, h3⟩ := hq
    refine ⟨rfl, ?_⟩
    refine a_iconst (k := 0) dX4_readRank_19 (n_lit (by decide)) ?_
    refine a_istore_n dX4_readRank_20 rfl (by decide) rfl ?_
    exact h3
  · refine a_aload_n dX4_readRank_5 rfl rfl ?_
    refine a_iload_n dX4_readRank_6 rfl rfl ?_
    refine iv_X4_55 dX4_readRank_7 (Nat.le_of_ble_eq_true rfl) (MtX_mono (h.2 c1) (fun r m4 hq => ?_))
    obtain ⟨rfl, h5⟩ := hq
    refine ⟨rfl, ?_⟩
    exact a_vret dX4_readRank_10 h5
set_option maxRecDepth 10000 in
theorem sg_X4_readRank_21 {d : Nat} {sx : Option (List Int)} (a1 : Int) (a2 : Int) (a3 : Int) (mem : AMem) (Q : Option AV → AMem → Prop) (h : ((mem 4 0 1) ≤ a3 → (Q none mem)) ∧ (¬ (mem 4 0 1) ≤ a3 → (MtX yX4_takesJoiner cX4_takesJoiner 4 (some .int) d [vr 4 0, vi a1] mem (fun r m2 => ∃ x4 : Int, r = some (vi x4) ∧ (((0 : Int) ≤ x4 → (MtX yX4_readRank cX4_readRank 5 none d [vr 4 0, vi (w32 (a1 + 1)), vi a2] m2 (fun r m6 => r = none ∧ (0 ≤ m6 4 0 4 ∧ (MtX yX3_add cX3_add 4 (some .int) d [vr 3 (Int.toNat (m6 4 0 4)), vi (w32 (6 + x4)), vi 0] m6 (fun r m8 => ∃ x10 : Int, r = some (vi x10) ∧ ((a1 ≠ (2 : Int) → (Y cX4_readRank 5 RX4 (d + 1) sx 21 [some (vr 4 0), some (vi a1), some (vi a2), some (vi (w32 (a3 + 1))), some (vi x4)] [] m8 Q)) ∧ (a1 = (2 : Int) → (Q none m8))))))))) ∧ (¬ (0 : Int) ≤ x4 → (Q none m2))))))) : Y cX4_readRank 5 RX4 (d + 1) sx 21 [some (vr 4 0), some (vi a1), some (vi a2), some (vi a3), none] [] mem Q := by
  refine a_iload_n dX4_readRank_21 rfl rfl ?_
  refine a_aload_n dX4_readRank_22 rfl rfl ?_
  refine gf_X4_20 (x := mem 4 0 1) rfl dX4_readRank_23 ?_
  refine a_icmp_ge (tgt := 76) dX4_readRank_26 (by decide) ⟨fun c1 => ?_, fun c1 => ?_⟩
  · exact a_vret dX4_readRank_76 (h.1 c1)
  · refine a_aload_n dX4_readRank_29 rfl rfl ?_
    refine a_iload_n dX4_readRank_30 rfl rfl ?_
    refine iv_X4_58 dX4_readRank_31 (Nat.le_of_ble_eq_true rfl) (MtX_mono (h.2 c1) (fun r m2 hq => ?_))
    obtain ⟨x4, rfl, h3⟩ := hq
    refine ⟨x4, rfl, ?_⟩
    refine a_istore dX4_readRank_34 (by decide) rfl ?_
    refine a_iload dX4_readRank_36 rfl ?_
    refine a_if_ge (tgt := 42) dX4_readRank_38 (by decide) ⟨fun c5 => ?_, fun c5 => ?_⟩
    · refine a_aload_n dX4_readRank_42 rfl rfl ?_
      refine a_iload_n dX4_readRank_43 rfl rfl ?_
      refine a_iconst (k := 1) dX4_readRank_44 (n_lit (by decide)) ?_
      refine a_iadd dX4_readRank_45 ?_
      refine a_iload_n dX4_readRank_46 rfl rfl ?_
      refine iv_X4_43 dX4_readRank_47 (Nat.le_of_ble_eq_true rfl) (MtX_mono (h3.1 c5) (fun r m6 hq => ?_))
      obtain ⟨rfl, h7⟩ := hq
      refine ⟨rfl, ?_⟩
      refine a_aload_n dX4_readRank_50 rfl rfl ?_
      refine gf_X4_16 (x := m6 4 0 4) rfl dX4_readRank_51 ⟨h7.1, ?_⟩
      refine a_bipush (k := 6) dX4_readRank_54 (by decide) (n_lit (by decide)) ?_
      refine a_iload dX4_readRank_56 rfl ?_
      refine a_iadd dX4_readRank_58 ?_
      refine a_iconst (k := 0) dX4_readRank_59 (n_lit (by decide)) ?_
      refine iv_X4_47 dX4_readRank_60 (Nat.le_of_ble_eq_true rfl) (MtX_mono h7.2 (fun r m8 hq => ?_))
      obtain ⟨x10, rfl, h9⟩ := hq
      refine ⟨x10, rfl, ?_⟩
      refine a_pop dX4_readRank_63 rfl ?_
      refine a_iload_n dX4_readRank_64 rfl rfl ?_
      refine a_iconst (k := 2) dX4_readRank_65 (n_lit (by decide)) ?_
      refine a_icmp_ne (tgt := 70) dX4_readRank_66 (by decide) ⟨fun c11 => ?_, fun c11 => ?_⟩
      · refine a_iinc dX4_readRank_70 rfl (by decide) rfl ?_
        refine a_goto (tgt := 21) dX4_readRank_73 (by decide) ?_
        exact (h9.1 c11)
      · exact a_vret dX4_readRank_69 (h9.2 c11)
    · exact a_vret dX4_readRank_41 (h3.2 c5)
set_option maxRecDepth 10000 in
theorem sg_X4_readOperand_0 {d : Nat} {sx : Option (List Int)} (a1 : Int) (mem : AMem) (Q : Option AV → AMem → Prop) (h : MtX yX4_sign cX4_sign 1 (some .int) d [vr 4 0] mem (fun r m1 => ∃ x3 : Int, r = some (vi x3) ∧ (MtX yX4_isDigit cX4_isDigit 1 (some .boolean) d [vi x3] m1 (fun r m4 => ∃ x6 : Int, r = some (vi x6) ∧ ((x6 = (0 : Int) → ((x3 = (40 : Int) → (((6 : Int) ≤ a1 → (MtX yX4_readName cX4_readName 3 none d [vr 4 0] m4 (fun r m10 => r = none ∧ (Q none m10)))) ∧ (¬ (6 : Int) ≤ a1 → (MtX yX4_readOpened cX4_readOpened 2 none d [vr 4 0, vi (w32 (a1 + 1))] m4 (fun r m12 => r = none ∧ (Q none m12)))))) ∧ (¬ x3 = (40 : Int) → ((x3 = (33 : Int) → (((6 : Int) ≤ a1 → (MtX yX4_readName cX4_readName 3 none d [vr 4 0] m4 (fun r m16 => r = none ∧ (Q none m16)))) ∧ (¬ (6 : Int) ≤ a1 → (MtX yX4_readOpened cX4_readOpened 2 none d [vr 4 0, vi (w32 (a1 + 1))] m4 (fun r m18 => r = none ∧ (Q none m18)))))) ∧ (¬ x3 = (33 : Int) → ((x3 ≠ (45 : Int) → (MtX yX4_readName cX4_readName 3 none d [vr 4 0] m4 (fun r m21 => r = none ∧ (Q none m21)))) ∧ (x3 = (45 : Int) → (((6 : Int) ≤ a1 → (MtX yX4_readName cX4_readName 3 none d [vr 4 0] m4 (fun r m24 => r = none ∧ (Q none m24)))) ∧ (¬ (6 : Int) ≤ a1 → (MtX yX4_readOpened cX4_readOpened 2 none d [vr 4 0, vi (w32 (a1 + 1))] m4 (fun r m26 => r = none ∧ (Q none m26)))))))))))) ∧ (¬ x6 = (0 : Int) → (MtX yX4_readNumber cX4_readNumber 3 none d [vr 4 0] m4 (fun r m28 => r = none ∧ (Q none m28))))))))) : Y cX4_readOperand 3 RX4 (d + 1) sx 0 [some (vr 4 0), some (vi a1), none] [] mem Q := by
  refine a_aload_n dX4_readOperand_0 rfl rfl ?_
  refine iv_X4_62 dX4_readOperand_1 (Nat.le_of_ble_eq_true rfl) (MtX_mono h (fun r m1 hq => ?_))
  obtain ⟨x3, rfl, h2⟩ := hq
  refine ⟨x3, rfl, ?_⟩
  refine a_istore_n dX4_readOperand_4 rfl (by decide) rfl ?_
  refine a_iload_n dX4_readOperand_5 rfl rfl ?_
  refine iv_X4_66 dX4_readOperand_6 (Nat.le_of_ble_eq_true rfl) (MtX_mono h2 (fun r m4 hq => ?_))
  obtain ⟨x6, rfl, h5⟩ := hq
  refine ⟨x6, rfl, ?_⟩
  refine a_if_eq (tgt := 19) dX4_readOperand_9 (by decide) ⟨fun c7 => ?_, fun c7 => ?_⟩
  · refine a_iload_n dX4_readOperand_19 rfl rfl ?_
    refine a_bipush (k := 40) dX4_readOperand_20 (by decide) (n_lit (by decide)) ?_
    refine a_icmp_eq (tgt := 37) dX4_readOperand_22 (by decide) ⟨fun c8 => ?_, fun c8 => ?_⟩
    · refine a_iload_n dX4_readOperand_37 rfl rfl ?_
      refine a_bipush (k := 6) dX4_readOperand_38 (by decide) (n_lit (by decide)) ?_
      refine a_icmp_ge (tgt := 53) dX4_readOperand_40 (by decide) ⟨fun c9 => ?_, fun c9 => ?_⟩
      · refine a_aload_n dX4_readOperand_53 rfl rfl ?_
        refine iv_X4_76 dX4_readOperand_54 (Nat.le_of_ble_eq_true rfl) (MtX_mono (((h5.1 c7).1 c8).1 c9) (fun r m10 hq => ?_))
        obtain ⟨rfl, h11⟩ := hq
        refine ⟨rfl, ?_⟩
        exact a_vret dX4_readOperand_57 h11
      · refine a_aload_n dX4_readOperand_43 rfl rfl ?_
        refine a_iload_n dX4_readOperand_44 rfl rfl ?_
        refine a_iconst (k := 1) dX4_readOperand_45 (n_lit (by decide)) ?_
        refine a_iadd dX4_readOperand_46 ?_
        refine iv_X4_73 dX4_readOperand_47 (Nat.le_of_ble_eq_true rfl) (MtX_mono (((h5.1 c7).1 c8).2 c9) (fun r m12 hq => ?_))
        obtain ⟨rfl, h13⟩ := hq
        refine ⟨rfl, ?_⟩
        refine a_goto (tgt := 57) dX4_readOperand_50 (by decide) ?_
        exact a_vret dX4_readOperand_57 h13
    · refine a_iload_n dX4_readOperand_25 rfl rfl ?_
      refine a_bipush (k := 33) dX4_readOperand_26 (by decide) (n_lit (by decide)) ?_
      refine a_icmp_eq (tgt := 37) dX4_readOperand_28 (by decide) ⟨fun c14 => ?_, fun c14 => ?_⟩
      · refine a_iload_n dX4_readOperand_37 rfl rfl ?_
        refine a_bipush (k := 6) dX4_readOperand_38 (by decide) (n_lit (by decide)) ?_
        refine a_icmp_ge (tgt := 53) dX4_readOperand_40 (by decide) ⟨fun c15 => ?_, fun c15 => ?_⟩
        · refine a_aload_n dX4_readOperand_53 rfl rfl ?_
          refine iv_X4_76 dX4_readOperand_54 (Nat.le_of_ble_eq_true rfl) (MtX_mono ((((h5.1 c7).2 c8).1 c14).1 c15) (fun r m16 hq => ?_))
          obtain ⟨rfl, h17⟩ := hq
          refine ⟨rfl, ?_⟩
          exact a_vret dX4_readOperand_57 h17
        · refine a_aload_n dX4_readOperand_43 rfl rfl ?_
          refine a_iload_n dX4_readOperand_44 rfl rfl ?_
          refine a_iconst (k := 1) dX4_readOperand_45 (n_lit (by decide)) ?_
          refine a_iadd dX4_readOperand_46 ?_
          refine iv_X4_73 dX4_readOperand_47 (Nat.le_of_ble_eq_true rfl) (MtX_mono ((((h5.1 c7).2 c8).1 c14).2 c15) (fun r m18 hq => ?_))
          obtain ⟨rfl, h19⟩ := hq
          refine ⟨rfl, ?_⟩
          refine a_goto (tgt := 57) dX4_readOperand_50 (by decide) ?_
          exact a_vret dX4_readOperand_57 h19
      · refine a_iload_n dX4_readOperand_31 rfl rfl ?_
        refine a_bipush (k := 45) dX4_readOperand_32 (by decide) (n_lit (by decide)) ?_
        refine a_icmp_ne (tgt := 53) dX4_readOperand_34 (by decide) ⟨fun c20 => ?_, fun c20 => ?_⟩
        · refine a_aload_n dX4_readOperand_53 rfl rfl ?_
          refine iv_X4_76 dX4_readOperand_54 (Nat.le_of_ble_eq_true rfl) (MtX_mono ((((h5.1 c7).2 c8).2 c14).1 c20) (fun r m21 hq => ?_))
          obtain ⟨rfl, h22⟩ := hq
          refine ⟨rfl, ?_⟩
          exact a_vret dX4_readOperand_57 h22
        · refine a_iload_n dX4_readOperand_37 rfl rfl ?_
          refine a_bipush (k := 6) dX4_readOperand_38 (by decide) (n_lit (by decide)) ?_
          refine a_icmp_ge (tgt := 53) dX4_readOperand_40 (by decide) ⟨fun c23 => ?_, fun c23 => ?_⟩
          · refine a_aload_n dX4_readOperand_53 rfl rfl ?_
            refine iv_X4_76 dX4_readOperand_54 (Nat.le_of_ble_eq_true rfl) (MtX_mono (((((h5.1 c7).2 c8).2 c14).2 c20).1 c23) (fun r m24 hq => ?_))
            obtain ⟨rfl, h25⟩ := hq
            refine ⟨rfl, ?_⟩
            exact a_vret dX4_readOperand_57 h25
          · refine a_aload_n dX4_readOperand_43 rfl rfl ?_
            refine a_iload_n dX4_readOperand_44 rfl rfl ?_
            refine a_iconst (k := 1) dX4_readOperand_45 (n_lit (by decide)) ?_
            refine a_iadd dX4_readOperand_46 ?_
            refine iv_X4_73 dX4_readOperand_47 (Nat.le_of_ble_eq_true rfl) (MtX_mono (((((h5.1 c7).2 c8).2 c14).2 c20).2 c23) (fun r m26 hq => ?_))
            obtain ⟨rfl, h27⟩ := hq
            refine ⟨rfl, ?_⟩
            refine a_goto (tgt := 57) dX4_readOperand_50 (by decide) ?_
            exact a_vret dX4_readOperand_57 h27
  · refine a_aload_n dX4_readOperand_12 rfl rfl ?_
    refine iv_X4_70 dX4_readOperand_13 (Nat.le_of_ble_eq_true rfl) (MtX_mono (h5.2 c7) (fun r m28 hq => ?_))
    obtain ⟨rfl, h29⟩ := hq
    refine ⟨rfl, ?_⟩
    refine a_goto (tgt := 57) dX4_readOperand_16 (by decide) ?_
    exact a_vret dX4_readOperand_57 h29
set_option maxRecDepth 10000 in
theorem sg_X4_readOpened_0 {d : Nat} {sx : Option (List Int)} (a1 : Int) (mem : AMem) (Q : Option AV → AMem → Prop) (h : MtX yX4_takes cX4_takes 3 (some .boolean) d [vr 4 0, vi 40] mem (fun r m1 => ∃ x3 : Int, r = some (vi x3) ∧ ((x3 = (0 : Int) → (MtX yX4_takes cX4_takes 3 (some .boolean) d [vr 4 0, vi 33] m1 (fun r m5 => ∃ x7 : Int, r = some (vi x7) ∧ ((x7 = (0 : Int) → (MtX yX4_takes cX4_takes 3 (some .boolean) d [vr 4 0, vi 45] m5 (fun r m9 => ∃ x11 : Int, r = some (vi x11) ∧ ((x11 = (0 : Int) → (Q none m9)) ∧ (¬ x11 = (0 : Int) → (MtX yX4_readOperand cX4_readOperand 3 none d [vr 4 0, vi a1] m9 (fun r m13 => r = none ∧ (0 ≤ m13 4 0 4 ∧ (MtX yX3_add cX3_add 4 (some .int) d [vr 3 (Int.toNat (m13 4 0 4)), vi 5, vi 0] m13 (fun r m15 => ∃ x17 : Int, r = some (vi x17) ∧ (Q none m15))))))))))) ∧ (¬ x7 = (0 : Int) → (MtX yX4_readOperand cX4_readOperand 3 none d [vr 4 0, vi a1] m5 (fun r m18 => r = none ∧ (0 ≤ m18 4 0 4 ∧ (MtX yX3_add cX3_add 4 (some .int) d [vr 3 (Int.toNat (m18 4 0 4)), vi 4, vi 0] m18 (fun r m20 => ∃ x22 : Int, r = some (vi x22) ∧ (Q none m20))))))))))) ∧ (¬ x3 = (0 : Int) → (MtX yX4_readRank cX4_readRank 5 none d [vr 4 0, vi 0, vi a1] m1 (fun r m23 => r = none ∧ (MtX yX4_takes cX4_takes 3 (some .boolean) d [vr 4 0, vi 41] m23 (fun r m25 => ∃ x27 : Int, r = some (vi x27) ∧ ((x27 ≠ (0 : Int) → (Q none m25)) ∧ (x27 = (0 : Int) → (MtX yX4_fail cX4_fail 1 none d [vr 4 0] m25 (fun r m29 => r = none ∧ (Q none m29))))))))))))) : Y cX4_readOpened 2 RX4 (d + 1) sx 0 [some (vr 4 0), some (vi a1)] [] mem Q := by
  refine a_aload_n dX4_readOpened_0 rfl rfl ?_
  refine a_bipush (k := 40) dX4_readOpened_1 (by decide) (n_lit (by decide)) ?_
  refine iv_X4_36 dX4_readOpened_3 (Nat.le_of_ble_eq_true rfl) (MtX_mono h (fun r m1 hq => ?_))
  obtain ⟨x3, rfl, h2⟩ := hq
  refine ⟨x3, rfl, ?_⟩
  refine a_if_eq (tgt := 31) dX4_readOpened_6 (by decide) ⟨fun c4 => ?_, fun c4 => ?_⟩
  · refine a_aload_n dX4_readOpened_31 rfl rfl ?_
    refine a_bipush (k := 33) dX4_readOpened_32 (by decide) (n_lit (by decide)) ?_
    refine iv_X4_36 dX4_readOpened_34 (Nat.le_of_ble_eq_true rfl) (MtX_mono (h2.1 c4) (fun r m5 hq => ?_))
    obtain ⟨x7, rfl, h6⟩ := hq
    refine ⟨x7, rfl, ?_⟩
    refine a_if_eq (tgt := 58) dX4_readOpened_37 (by decide) ⟨fun c8 => ?_, fun c8 => ?_⟩
    · refine a_aload_n dX4_readOpened_58 rfl rfl ?_
      refine a_bipush (k := 45) dX4_readOpened_59 (by decide) (n_lit (by decide)) ?_
      refine iv_X4_36 dX4_readOpened_61 (Nat.le_of_ble_eq_true rfl) (MtX_mono (h6.1 c8) (fun r m9 hq => ?_))
      obtain ⟨x11, rfl, h10⟩ := hq
      refine ⟨x11, rfl, ?_⟩
      refine a_if_eq (tgt := 82) dX4_readOpened_64 (by decide) ⟨fun c12 => ?_, fun c12 => ?_⟩
      · exact a_vret dX4_readOpened_82 (h10.1 c12)
      · refine a_aload_n dX4_readOpened_67 rfl rfl ?_
        refine a_iload_n dX4_readOpened_68 rfl rfl ?_
        refine iv_X4_55 dX4_readOpened_69 (Nat.le_of_ble_eq_true rfl) (MtX_mono (h10.2 c12) (fun r m13 hq => ?_))
        obtain ⟨rfl, h14⟩ := hq
        refine ⟨rfl, ?_⟩
        refine a_aload_n dX4_readOpened_72 rfl rfl ?_
        refine gf_X4_16 (x := m13 4 0 4) rfl dX4_readOpened_73 ⟨h14.1, ?_⟩
        refine a_iconst (k := 5) dX4_readOpened_76 (n_lit (by decide)) ?_
        refine a_iconst (k := 0) dX4_readOpened_77 (n_lit (by decide)) ?_
        refine iv_X4_47 dX4_readOpened_78 (Nat.le_of_ble_eq_true rfl) (MtX_mono h14.2 (fun r m15 hq => ?_))
        obtain ⟨x17, rfl, h16⟩ := hq
        refine ⟨x17, rfl, ?_⟩
        refine a_pop dX4_readOpened_81 rfl ?_
        exact a_vret dX4_readOpened_82 h16
    · refine a_aload_n dX4_readOpened_40 rfl rfl ?_
      refine a_iload_n dX4_readOpened_41 rfl rfl ?_
      refine iv_X4_55 dX4_readOpened_42 (Nat.le_of_ble_eq_true rfl) (MtX_mono (h6.2 c8) (fun r m18 hq => ?_))
      obtain ⟨rfl, h19⟩ := hq
      refine ⟨rfl, ?_⟩
      refine a_aload_n dX4_readOpened_45 rfl rfl ?_
      refine gf_X4_16 (x := m18 4 0 4) rfl dX4_readOpened_46 ⟨h19.1, ?_⟩
      refine a_iconst (k := 4) dX4_readOpened_49 (n_lit (by decide)) ?_
      refine a_iconst (k := 0) dX4_readOpened_50 (n_lit (by decide)) ?_
      refine iv_X4_47 dX4_readOpened_51 (Nat.le_of_ble_eq_true rfl) (MtX_mono h19.2 (fun r m20 hq => ?_))
      obtain ⟨x22, rfl, h21⟩ := hq
      refine ⟨x22, rfl, ?_⟩
      refine a_pop dX4_readOpened_54 rfl ?_
      refine a_goto (tgt := 82) dX4_readOpened_55 (by decide) ?_
      exact a_vret dX4_readOpened_82 h21
  · refine a_aload_n dX4_readOpened_9 rfl rfl ?_
    refine a_iconst (k := 0) dX4_readOpened_10 (n_lit (by decide)) ?_
    refine a_iload_n dX4_readOpened_11 rfl rfl ?_
    refine iv_X4_43 dX4_readOpened_12 (Nat.le_of_ble_eq_true rfl) (MtX_mono (h2.2 c4) (fun r m23 hq => ?_))
    obtain ⟨rfl, h24⟩ := hq
    refine ⟨rfl, ?_⟩
    refine a_aload_n dX4_readOpened_15 rfl rfl ?_
    refine a_bipush (k := 41) dX4_readOpened_16 (by decide) (n_lit (by decide)) ?_
    refine iv_X4_36 dX4_readOpened_18 (Nat.le_of_ble_eq_true rfl) (MtX_mono h24 (fun r m25 hq => ?_))
    obtain ⟨x27, rfl, h26⟩ := hq
    refine ⟨x27, rfl, ?_⟩
    refine a_if_ne (tgt := 82) dX4_readOpened_21 (by decide) ⟨fun c28 => ?_, fun c28 => ?_⟩
    · exact a_vret dX4_readOpened_82 (h26.1 c28)
    · refine a_aload_n dX4_readOpened_24 rfl rfl ?_
      refine iv_X4_40 dX4_readOpened_25 (Nat.le_of_ble_eq_true rfl) (MtX_mono (h26.2 c28) (fun r m29 hq => ?_))
      obtain ⟨rfl, h30⟩ := hq
      refine ⟨rfl, ?_⟩
      refine a_goto (tgt := 82) dX4_readOpened_28 (by decide) ?_
      exact a_vret dX4_readOpened_82 h30
set_option maxRecDepth 10000 in
theorem sg_X4_readNumber_0 {d : Nat} {sx : Option (List Int)}  (mem : AMem) (Q : Option AV → AMem → Prop) (h : Y cX4_readNumber 3 RX4 (d + 1) sx 4 [some (vr 4 0), some (vi 0), some (vi 0)] [] mem Q) : Y cX4_readNumber 3 RX4 (d + 1) sx 0 [some (vr 4 0), none, none] [] mem Q := by
  refine a_iconst (k := 0) dX4_readNumber_0 (n_lit (by decide)) ?_
  refine a_istore_n dX4_readNumber_1 rfl (by decide) rfl ?_
  refine a_iconst (k := 0) dX4_readNumber_2 (n_lit (by decide)) ?_
  refine a_istore_n dX4_readNumber_3 rfl (by decide) rfl ?_
  exact h
set_option maxRecDepth 10000 in
theorem sg_X4_readNumber_4 {d : Nat} {sx : Option (List Int)} (a1 : Int) (a2 : Int) (mem : AMem) (Q : Option AV → AMem → Prop) (h : ((4 : Int) ≤ a2 → (0 ≤ mem 4 0 4 ∧ (MtX yX3_add cX3_add 4 (some .int) d [vr 3 (Int.toNat (mem 4 0 4)), vi 0, vi a1] mem (fun r m2 => ∃ x4 : Int, r = some (vi x4) ∧ (Q none m2))))) ∧ (¬ (4 : Int) ≤ a2 → (MtX yX4_sign cX4_sign 1 (some .int) d [vr 4 0] mem (fun r m5 => ∃ x7 : Int, r = some (vi x7) ∧ (MtX yX4_isDigit cX4_isDigit 1 (some .boolean) d [vi x7] m5 (fun r m8 => ∃ x10 : Int, r = some (vi x10) ∧ ((x10 = (0 : Int) → (0 ≤ m8 4 0 4 ∧ (MtX yX3_add cX3_add 4 (some .int) d [vr 3 (Int.toNat (m8 4 0 4)), vi 0, vi a1] m8 (fun r m12 => ∃ x14 : Int, r = some (vi x14) ∧ (Q none m12))))) ∧ (¬ x10 = (0 : Int) → (MtX yX4_sign cX4_sign 1 (some .int) d [vr 4 0] m8 (fun r m15 => ∃ x17 : Int, r = some (vi x17) ∧ (Y cX4_readNumber 3 RX4 (d + 1) sx 4 [some (vr 4 0), some (vi (w32 ((w32 ((w32 (a1 * 10)) + x17)) - 48))), some (vi (w32 (a2 + 1)))] [] (upM m15 4 0 2 (w32 ((m15 4 0 2) + 1))) Q))))))))))) : Y cX4_readNumber 3 RX4 (d + 1) sx 4 [some (vr 4 0), some (vi a1), some (vi a2)] [] mem Q := by
  refine a_iload_n dX4_readNumber_4 rfl rfl ?_
  refine a_iconst (k := 4) dX4_readNumber_5 (n_lit (by decide)) ?_
  refine a_icmp_ge (tgt := 48) dX4_readNumber_6 (by decide) ⟨fun c1 => ?_, fun c1 => ?_⟩
  · refine a_aload_n dX4_readNumber_48 rfl rfl ?_
    refine gf_X4_16 (x := mem 4 0 4) rfl dX4_readNumber_49 ⟨(h.1 c1).1, ?_⟩
    refine a_iconst (k := 0) dX4_readNumber_52 (n_lit (by decide)) ?_
    refine a_iload_n dX4_readNumber_53 rfl rfl ?_
    refine iv_X4_47 dX4_readNumber_54 (Nat.le_of_ble_eq_true rfl) (MtX_mono (h.1 c1).2 (fun r m2 hq => ?_))
    obtain ⟨x4, rfl, h3⟩ := hq
    refine ⟨x4, rfl, ?_⟩
    refine a_pop dX4_readNumber_57 rfl ?_
    exact a_vret dX4_readNumber_58 h3
  · refine a_aload_n dX4_readNumber_9 rfl rfl ?_
    refine iv_X4_62 dX4_readNumber_10 (Nat.le_of_ble_eq_true rfl) (MtX_mono (h.2 c1) (fun r m5 hq => ?_))
    obtain ⟨x7, rfl, h6⟩ := hq
    refine ⟨x7, rfl, ?_⟩
    refine iv_X4_66 dX4_readNumber_13 (Nat.le_of_ble_eq_true rfl) (MtX_mono h6 (fun r m8 hq => ?_))
    obtain ⟨x10, rfl, h9⟩ := hq
    refine ⟨x10, rfl, ?_⟩
    refine a_if_eq (tgt := 48) dX4_readNumber_16 (by decide) ⟨fun c11 => ?_, fun c11 => ?_⟩
    · refine a_aload_n dX4_readNumber_48 rfl rfl ?_
      refine gf_X4_16 (x := m8 4 0 4) rfl dX4_readNumber_49 ⟨(h9.1 c11).1, ?_⟩
      refine a_iconst (k := 0) dX4_readNumber_52 (n_lit (by decide)) ?_
      refine a_iload_n dX4_readNumber_53 rfl rfl ?_
      refine iv_X4_47 dX4_readNumber_54 (Nat.le_of_ble_eq_true rfl) (MtX_mono (h9.1 c11).2 (fun r m12 hq => ?_))
      obtain ⟨x14, rfl, h13⟩ := hq
      refine ⟨x14, rfl, ?_⟩
      refine a_pop dX4_readNumber_57 rfl ?_
      exact a_vret dX4_readNumber_58 h13
    · refine a_iload_n dX4_readNumber_19 rfl rfl ?_
      refine a_bipush (k := 10) dX4_readNumber_20 (by decide) (n_lit (by decide)) ?_
      refine a_imul dX4_readNumber_22 ?_
      refine a_aload_n dX4_readNumber_23 rfl rfl ?_
      refine iv_X4_62 dX4_readNumber_24 (Nat.le_of_ble_eq_true rfl) (MtX_mono (h9.2 c11) (fun r m15 hq => ?_))
      obtain ⟨x17, rfl, h16⟩ := hq
      refine ⟨x17, rfl, ?_⟩
      refine a_iadd dX4_readNumber_27 ?_
      refine a_bipush (k := 48) dX4_readNumber_28 (by decide) (n_lit (by decide)) ?_
      refine a_isub dX4_readNumber_30 ?_
      refine a_istore_n dX4_readNumber_31 rfl (by decide) rfl ?_
      refine a_aload_n dX4_readNumber_32 rfl rfl ?_
      refine a_dup dX4_readNumber_33 rfl ?_
      refine gf_X4_24 (x := m15 4 0 2) rfl dX4_readNumber_34 ?_
      refine a_iconst (k := 1) dX4_readNumber_37 (n_lit (by decide)) ?_
      refine a_iadd dX4_readNumber_38 ?_
      refine pf_X4_24 dX4_readNumber_39 ?_
      refine a_iinc dX4_readNumber_42 rfl (by decide) rfl ?_
      refine a_goto (tgt := 4) dX4_readNumber_45 (by decide) ?_
      exact h16
set_option maxRecDepth 10000 in
theorem sg_X4_isDigit_0 {d : Nat} {sx : Option (List Int)} (a0 : Int) (mem : AMem) (Q : Option AV → AMem → Prop) (h : (a0 < (48 : Int) → (Q (some (vi 0)) mem)) ∧ (¬ a0 < (48 : Int) → (((57 : Int) < a0 → (Q (some (vi 0)) mem)) ∧ (¬ (57 : Int) < a0 → (Q (some (vi 1)) mem))))) : Y cX4_isDigit 1 RX4 (d + 1) sx 0 [some (vi a0)] [] mem Q := by
  refine a_iload_n dX4_isDigit_0 rfl rfl ?_
  refine a_bipush (k := 48) dX4_isDigit_1 (by decide) (n_lit (by decide)) ?_
  refine a_icmp_lt (tgt := 16) dX4_isDigit_3 (by decide) ⟨fun c1 => ?_, fun c1 => ?_⟩
  · refine a_iconst (k := 0) dX4_isDigit_16 (n_lit (by decide)) ?_
    exact a_iret dX4_isDigit_17 (h.1 c1)
  · refine a_iload_n dX4_isDigit_6 rfl rfl ?_
    refine a_bipush (k := 57) dX4_isDigit_7 (by decide) (n_lit (by decide)) ?_
    refine a_icmp_gt (tgt := 16) dX4_isDigit_9 (by decide) ⟨fun c2 => ?_, fun c2 => ?_⟩
    · refine a_iconst (k := 0) dX4_isDigit_16 (n_lit (by decide)) ?_
      exact a_iret dX4_isDigit_17 ((h.2 c1).1 c2)
    · refine a_iconst (k := 1) dX4_isDigit_12 (n_lit (by decide)) ?_
      refine a_goto (tgt := 17) dX4_isDigit_13 (by decide) ?_
      exact a_iret dX4_isDigit_17 ((h.2 c1).2 c2)
set_option maxRecDepth 10000 in
theorem sg_X4_sign_0 {d : Nat} {sx : Option (List Int)}  (mem : AMem) (Q : Option AV → AMem → Prop) (h : ((0 : Int) ≤ (mem 4 0 3) → (Q (some (vi (-1))) mem)) ∧ (¬ (0 : Int) ≤ (mem 4 0 3) → (((mem 4 0 2) < (0 : Int) → (Q (some (vi (-1))) mem)) ∧ (¬ (mem 4 0 2) < (0 : Int) → (((mem 4 0 1) ≤ (mem 4 0 2) → (Q (some (vi (-1))) mem)) ∧ (¬ (mem 4 0 1) ≤ (mem 4 0 2) → ((0 ≤ (mem 4 0 2) ∧ (mem 4 0 2) < 120) ∧ (Q (some (vi (mem 500 0 (mem 4 0 2)))) mem)))))))) : Y cX4_sign 1 RX4 (d + 1) sx 0 [some (vr 4 0)] [] mem Q := by
  refine a_aload_n dX4_sign_0 rfl rfl ?_
  refine gf_X4_27 (x := mem 4 0 3) rfl dX4_sign_1 ?_
  refine a_if_ge (tgt := 37) dX4_sign_4 (by decide) ⟨fun c1 => ?_, fun c1 => ?_⟩
  · refine a_iconst (k := (-1)) dX4_sign_37 (n_lit (by decide)) ?_
    exact a_iret dX4_sign_38 (h.1 c1)
  · refine a_aload_n dX4_sign_7 rfl rfl ?_
    refine gf_X4_24 (x := mem 4 0 2) rfl dX4_sign_8 ?_
    refine a_if_lt (tgt := 37) dX4_sign_11 (by decide) ⟨fun c2 => ?_, fun c2 => ?_⟩
    · refine a_iconst (k := (-1)) dX4_sign_37 (n_lit (by decide)) ?_
      exact a_iret dX4_sign_38 ((h.2 c1).1 c2)
    · refine a_aload_n dX4_sign_14 rfl rfl ?_
      refine gf_X4_24 (x := mem 4 0 2) rfl dX4_sign_15 ?_
      refine a_aload_n dX4_sign_18 rfl rfl ?_
      refine gf_X4_20 (x := mem 4 0 1) rfl dX4_sign_19 ?_
      refine a_icmp_ge (tgt := 37) dX4_sign_22 (by decide) ⟨fun c3 => ?_, fun c3 => ?_⟩
      · refine a_iconst (k := (-1)) dX4_sign_37 (n_lit (by decide)) ?_
        exact a_iret dX4_sign_38 (((h.2 c1).2 c2).1 c3)
      · refine a_aload_n dX4_sign_25 rfl rfl ?_
        refine gf_X4_9 dX4_sign_26 ?_
        refine a_aload_n dX4_sign_29 rfl rfl ?_
        refine gf_X4_24 (x := mem 4 0 2) rfl dX4_sign_30 ?_
        refine a_iald rfl rfl (by decide) rfl dX4_sign_33 ⟨(((h.2 c1).2 c2).2 c3).1, ?_⟩
        refine a_goto (tgt := 38) dX4_sign_34 (by decide) ?_
        exact a_iret dX4_sign_38 (((h.2 c1).2 c2).2 c3).2
set_option maxRecDepth 10000 in
theorem sg_X4_takes_0 {d : Nat} {sx : Option (List Int)} (a1 : Int) (mem : AMem) (Q : Option AV → AMem → Prop) (h : MtX yX4_sign cX4_sign 1 (some .int) d [vr 4 0] mem (fun r m1 => ∃ x3 : Int, r = some (vi x3) ∧ ((x3 ≠ a1 → (((0 : Int) = (0 : Int) → (Q (some (vi 0)) (upM m1 4 0 2 (w32 ((m1 4 0 2) + 0))))) ∧ (¬ (0 : Int) = (0 : Int) → (Q (some (vi 0)) (upM m1 4 0 2 (w32 ((m1 4 0 2) + 1))))))) ∧ (x3 = a1 → (((1 : Int) = (0 : Int) → (Q (some (vi 1)) (upM m1 4 0 2 (w32 ((m1 4 0 2) + 0))))) ∧ (¬ (1 : Int) = (0 : Int) → (Q (some (vi 1)) (upM m1 4 0 2 (w32 ((m1 4 0 2) + 1)))))))))) : Y cX4_takes 3 RX4 (d + 1) sx 0 [some (vr 4 0), some (vi a1), none] [] mem Q := by
  refine a_aload_n dX4_takes_0 rfl rfl ?_
  refine iv_X4_62 dX4_takes_1 (Nat.le_of_ble_eq_true rfl) (MtX_mono h (fun r m1 hq => ?_))
  obtain ⟨x3, rfl, h2⟩ := hq
  refine ⟨x3, rfl, ?_⟩
  refine a_iload_n dX4_takes_4 rfl rfl ?_
  refine a_icmp_ne (tgt := 12) dX4_takes_5 (by decide) ⟨fun c4 => ?_, fun c4 => ?_⟩
  · refine a_iconst (k := 0) dX4_takes_12 (n_lit (by decide)) ?_
    refine a_istore_n dX4_takes_13 rfl (by decide) rfl ?_
    refine a_aload_n dX4_takes_14 rfl rfl ?_
    refine a_dup dX4_takes_15 rfl ?_
    refine gf_X4_24 (x := m1 4 0 2) rfl dX4_takes_16 ?_
    refine a_iload_n dX4_takes_19 rfl rfl ?_
    refine a_if_eq (tgt := 27) dX4_takes_20 (by decide) ⟨fun c5 => ?_, fun c5 => ?_⟩
    · refine a_iconst (k := 0) dX4_takes_27 (n_lit (by decide)) ?_
      refine a_iadd dX4_takes_28 ?_
      refine pf_X4_24 dX4_takes_29 ?_
      refine a_iload_n dX4_takes_32 rfl rfl ?_
      exact a_iret dX4_takes_33 ((h2.1 c4).1 c5)
    · refine a_iconst (k := 1) dX4_takes_23 (n_lit (by decide)) ?_
      refine a_goto (tgt := 28) dX4_takes_24 (by decide) ?_
      refine a_iadd dX4_takes_28 ?_
      refine pf_X4_24 dX4_takes_29 ?_
      refine a_iload_n dX4_takes_32 rfl rfl ?_
      exact a_iret dX4_takes_33 ((h2.1 c4).2 c5)
  · refine a_iconst (k := 1) dX4_takes_8 (n_lit (by decide)) ?_
    refine a_goto (tgt := 13) dX4_takes_9 (by decide) ?_
    refine a_istore_n dX4_takes_13 rfl (by decide) rfl ?_
    refine a_aload_n dX4_takes_14 rfl rfl ?_
    refine a_dup dX4_takes_15 rfl ?_
    refine gf_X4_24 (x := m1 4 0 2) rfl dX4_takes_16 ?_
    refine a_iload_n dX4_takes_19 rfl rfl ?_
    refine a_if_eq (tgt := 27) dX4_takes_20 (by decide) ⟨fun c6 => ?_, fun c6 => ?_⟩
    · refine a_iconst (k := 0) dX4_takes_27 (n_lit (by decide)) ?_
      refine a_iadd dX4_takes_28 ?_
      refine pf_X4_24 dX4_takes_29 ?_
      refine a_iload_n dX4_takes_32 rfl rfl ?_
      exact a_iret dX4_takes_33 ((h2.2 c4).1 c6)
    · refine a_iconst (k := 1) dX4_takes_23 (n_lit (by decide)) ?_
      refine a_goto (tgt := 28) dX4_takes_24 (by decide) ?_
      refine a_iadd dX4_takes_28 ?_
      refine pf_X4_24 dX4_takes_29 ?_
      refine a_iload_n dX4_takes_32 rfl rfl ?_
      exact a_iret dX4_takes_33 ((h2.2 c4).2 c6)
set_option maxRecDepth 10000 in
theorem sg_X4_fail_0 {d : Nat} {sx : Option (List Int)}  (mem : AMem) (Q : Option AV → AMem → Prop) (h : ((0 : Int) ≤ (mem 4 0 3) → (Q none mem)) ∧ (¬ (0 : Int) ≤ (mem 4 0 3) → (Q none (upM mem 4 0 3 (mem 4 0 2))))) : Y cX4_fail 1 RX4 (d + 1) sx 0 [some (vr 4 0)] [] mem Q := by
  refine a_aload_n dX4_fail_0 rfl rfl ?_
  refine gf_X4_27 (x := mem 4 0 3) rfl dX4_fail_1 ?_
  refine a_if_ge (tgt := 15) dX4_fail_4 (by decide) ⟨fun c1 => ?_, fun c1 => ?_⟩
  · exact a_vret dX4_fail_15 (h.1 c1)
  · refine a_aload_n dX4_fail_7 rfl rfl ?_
    refine a_aload_n dX4_fail_8 rfl rfl ?_
    refine gf_X4_24 (x := mem 4 0 2) rfl dX4_fail_9 ?_
    refine pf_X4_27 dX4_fail_12 ?_
    exact a_vret dX4_fail_15 (h.2 c1)
set_option maxRecDepth 10000 in
theorem sg_X5_enter_0 {d : Nat} {sx : Option (List Int)} (j1 : Nat) (mem : AMem) (Q : Option AV → AMem → Prop) (h : MtX yX7_pointsForThem cX7_pointsForThem 2 (some .int) d [vr 7 j1, vr 2 0] mem (fun r m1 => ∃ x3 : Int, r = some (vi x3) ∧ ((0 ≤ (0 : Int) ∧ (0 : Int) < 5) ∧ ((0 ≤ (0 : Int) ∧ (0 : Int) < 5) ∧ ((0 ≤ (1 : Int) ∧ (1 : Int) < 5) ∧ (MtX yX7_points cX7_points 1 (some .int) d [vr 7 j1] (upM m1 600 0 0 (w32 ((m1 600 0 0) + 1))) (fun r m4 => ∃ x6 : Int, r = some (vi x6) ∧ ((0 ≤ (1 : Int) ∧ (1 : Int) < 5) ∧ ((0 ≤ (2 : Int) ∧ (2 : Int) < 5) ∧ ((0 ≤ (2 : Int) ∧ (2 : Int) < 5) ∧ ((0 ≤ (3 : Int) ∧ (3 : Int) < 5) ∧ ((0 ≤ (3 : Int) ∧ (3 : Int) < 5) ∧ ((0 ≤ (4 : Int) ∧ (4 : Int) < 5) ∧ (((m4 7 j1 13) ≠ (2 : Int) → ((0 ≤ (4 : Int) ∧ (4 : Int) < 5) ∧ (((m4 7 j1 13) ≠ (1 : Int) → (Y cX5_enter 7 RX5 (d + 1) sx 105 [some (vr 5 0), some (vr 7 j1), some (vr 2 0), some (vi x3), some (vi (m4 2 0 4)), some (vi 0), none] [] (upM (upM (upM (upM m4 600 0 1 (w32 ((m1 600 0 1) + x6))) 600 0 2 (w32 ((m4 600 0 2) + x3))) 600 0 3 (w32 ((m4 600 0 3) + (m4 7 j1 8)))) 600 0 4 (w32 ((m4 600 0 4) + 0))) Q)) ∧ ((m4 7 j1 13) = (1 : Int) → (Y cX5_enter 7 RX5 (d + 1) sx 105 [some (vr 5 0), some (vr 7 j1), some (vr 2 0), some (vi x3), some (vi (an32 (m4 2 0 4) (xo32 (m4 7 j1 10) (-1)))), some (vi 0), none] [] (upM (upM (upM (upM m4 600 0 1 (w32 ((m1 600 0 1) + x6))) 600 0 2 (w32 ((m4 600 0 2) + x3))) 600 0 3 (w32 ((m4 600 0 3) + (m4 7 j1 8)))) 600 0 4 (w32 ((m4 600 0 4) + 0))) Q))))) ∧ ((m4 7 j1 13) = (2 : Int) → ((0 ≤ (4 : Int) ∧ (4 : Int) < 5) ∧ (((m4 7 j1 13) ≠ (1 : Int) → (Y cX5_enter 7 RX5 (d + 1) sx 105 [some (vr 5 0), some (vr 7 j1), some (vr 2 0), some (vi x3), some (vi (m4 2 0 4)), some (vi 0), none] [] (upM (upM (upM (upM m4 600 0 1 (w32 ((m1 600 0 1) + x6))) 600 0 2 (w32 ((m4 600 0 2) + x3))) 600 0 3 (w32 ((m4 600 0 3) + (m4 7 j1 8)))) 600 0 4 (w32 ((m4 600 0 4) + 1))) Q)) ∧ ((m4 7 j1 13) = (1 : Int) → (Y cX5_enter 7 RX5 (d + 1) sx 105 [some (vr 5 0), some (vr 7 j1), some (vr 2 0), some (vi x3), some (vi (an32 (m4 2 0 4) (xo32 (m4 7 j1 10) (-1)))), some (vi 0), none] [] (upM (upM (upM (upM m4 600 0 1 (w32 ((m1 600 0 1) + x6))) 600 0 2 (w32 ((m4 600 0 2) + x3))) 600 0 3 (w32 ((m4 600 0 3) + (m4 7 j1 8)))) 600 0 4 (w32 ((m4 600 0 4) + 1))) Q))))))))))))))))))) : Y cX5_enter 7 RX5 (d + 1) sx 0 [some (vr 5 0), some (vr 7 j1), some (vr 2 0), none, none, none, none] [] mem Q := by
  refine a_aload_n dX5_enter_0 rfl rfl ?_
  refine a_aload_n dX5_enter_1 rfl rfl ?_
  refine iv_X5_18 dX5_enter_2 (Nat.le_of_ble_eq_true rfl) (MtX_mono h (fun r m1 hq => ?_))
  obtain ⟨x3, rfl, h2⟩ := hq
  refine ⟨x3, rfl, ?_⟩
  refine a_istore_n dX5_enter_5 rfl (by decide) rfl ?_
  refine a_aload_n dX5_enter_6 rfl rfl ?_
  refine gf_X5_11 dX5_enter_7 ?_
  refine a_iconst (k := 0) dX5_enter_10 (n_lit (by decide)) ?_
  refine a_dup2 dX5_enter_11 rfl rfl ?_
  refine a_iald rfl rfl (by decide) rfl dX5_enter_12 ⟨h2.1, ?_⟩
  refine a_iconst (k := 1) dX5_enter_13 (n_lit (by decide)) ?_
  refine a_iadd dX5_enter_14 ?_
  refine a_iast rfl rfl (by decide) rfl dX5_enter_15 ⟨h2.2.1, ?_⟩
  refine a_aload_n dX5_enter_16 rfl rfl ?_
  refine gf_X5_11 dX5_enter_17 ?_
  refine a_iconst (k := 1) dX5_enter_20 (n_lit (by decide)) ?_
  refine a_dup2 dX5_enter_21 rfl rfl ?_
  refine a_iald rfl rfl (by decide) rfl dX5_enter_22 ⟨h2.2.2.1, ?_⟩
  refine a_aload_n dX5_enter_23 rfl rfl ?_
  refine iv_X5_24 dX5_enter_24 (Nat.le_of_ble_eq_true rfl) (MtX_mono h2.2.2.2 (fun r m4 hq => ?_))
  obtain ⟨x6, rfl, h5⟩ := hq
  refine ⟨x6, rfl, ?_⟩
  refine a_iadd dX5_enter_27 ?_
  refine a_iast rfl rfl (by decide) rfl dX5_enter_28 ⟨h5.1, ?_⟩
  refine a_aload_n dX5_enter_29 rfl rfl ?_
  refine gf_X5_11 dX5_enter_30 ?_
  refine a_iconst (k := 2) dX5_enter_33 (n_lit (by decide)) ?_
  refine a_dup2 dX5_enter_34 rfl rfl ?_
  refine a_iald rfl rfl (by decide) rfl dX5_enter_35 ⟨h5.2.1, ?_⟩
  refine a_iload_n dX5_enter_36 rfl rfl ?_
  refine a_iadd dX5_enter_37 ?_
  refine a_iast rfl rfl (by decide) rfl dX5_enter_38 ⟨h5.2.2.1, ?_⟩
  refine a_aload_n dX5_enter_39 rfl rfl ?_
  refine gf_X5_11 dX5_enter_40 ?_
  refine a_iconst (k := 3) dX5_enter_43 (n_lit (by decide)) ?_
  refine a_dup2 dX5_enter_44 rfl rfl ?_
  refine a_iald rfl rfl (by decide) rfl dX5_enter_45 ⟨h5.2.2.2.1, ?_⟩
  refine a_aload_n dX5_enter_46 rfl rfl ?_
  refine gf_X5_28 (x := m4 7 j1 8) (by simp [upM]) dX5_enter_47 ?_
  refine a_iadd dX5_enter_50 ?_
  refine a_iast rfl rfl (by decide) rfl dX5_enter_51 ⟨h5.2.2.2.2.1, ?_⟩
  refine a_aload_n dX5_enter_52 rfl rfl ?_
  refine gf_X5_11 dX5_enter_53 ?_
  refine a_iconst (k := 4) dX5_enter_56 (n_lit (by decide)) ?_
  refine a_dup2 dX5_enter_57 rfl rfl ?_
  refine a_iald rfl rfl (by decide) rfl dX5_enter_58 ⟨h5.2.2.2.2.2.1, ?_⟩
  refine a_aload_n dX5_enter_59 rfl rfl ?_
  refine gf_X5_32 (x := m4 7 j1 13) (by simp [upM]) dX5_enter_60 ?_
  refine a_iconst (k := 2) dX5_enter_63 (n_lit (by decide)) ?_
  refine a_icmp_ne (tgt := 71) dX5_enter_64 (by decide) ⟨fun c7 => ?_, fun c7 => ?_⟩
  · refine a_iconst (k := 0) dX5_enter_71 (n_lit (by decide)) ?_
    refine a_iadd dX5_enter_72 ?_
    refine a_iast rfl rfl (by decide) rfl dX5_enter_73 ⟨(h5.2.2.2.2.2.2.1 c7).1, ?_⟩
    refine a_aload_n dX5_enter_74 rfl rfl ?_
    refine gf_X5_32 (x := m4 7 j1 13) (by simp [upM]) dX5_enter_75 ?_
    refine a_iconst (k := 1) dX5_enter_78 (n_lit (by decide)) ?_
    refine a_icmp_ne (tgt := 96) dX5_enter_79 (by decide) ⟨fun c8 => ?_, fun c8 => ?_⟩
    · refine a_aload_n dX5_enter_96 rfl rfl ?_
      refine gf_X5_35 (x := m4 2 0 4) rfl dX5_enter_97 ?_
      refine a_istore dX5_enter_100 (by decide) rfl ?_
      refine a_iconst (k := 0) dX5_enter_102 (n_lit (by decide)) ?_
      refine a_istore dX5_enter_103 (by decide) rfl ?_
      exact ((h5.2.2.2.2.2.2.1 c7).2.1 c8)
    · refine a_aload_n dX5_enter_82 rfl rfl ?_
      refine gf_X5_35 (x := m4 2 0 4) rfl dX5_enter_83 ?_
      refine a_aload_n dX5_enter_86 rfl rfl ?_
      refine gf_X5_40 (x := m4 7 j1 10) (by simp [upM]) dX5_enter_87 ?_
      refine a_iconst (k := (-1)) dX5_enter_90 (n_lit (by decide)) ?_
      refine a_ixor dX5_enter_91 ?_
      refine a_iand dX5_enter_92 ?_
      refine a_goto (tgt := 100) dX5_enter_93 (by decide) ?_
      refine a_istore dX5_enter_100 (by decide) rfl ?_
      refine a_iconst (k := 0) dX5_enter_102 (n_lit (by decide)) ?_
      refine a_istore dX5_enter_103 (by decide) rfl ?_
      exact ((h5.2.2.2.2.2.2.1 c7).2.2 c8)
  · refine a_iconst (k := 1) dX5_enter_67 (n_lit (by decide)) ?_
    refine a_goto (tgt := 72) dX5_enter_68 (by decide) ?_
    refine a_iadd dX5_enter_72 ?_
    refine a_iast rfl rfl (by decide) rfl dX5_enter_73 ⟨(h5.2.2.2.2.2.2.2 c7).1, ?_⟩
    refine a_aload_n dX5_enter_74 rfl rfl ?_
    refine gf_X5_32 (x := m4 7 j1 13) (by simp [upM]) dX5_enter_75 ?_
    refine a_iconst (k := 1) dX5_enter_78 (n_lit (by decide)) ?_
    refine a_icmp_ne (tgt := 96) dX5_enter_79 (by decide) ⟨fun c9 => ?_, fun c9 => ?_⟩
    · refine a_aload_n dX5_enter_96 rfl rfl ?_
      refine gf_X5_35 (x := m4 2 0 4) rfl dX5_enter_97 ?_
      refine a_istore dX5_enter_100 (by decide) rfl ?_
      refine a_iconst (k := 0) dX5_enter_102 (n_lit (by decide)) ?_
      refine a_istore dX5_enter_103 (by decide) rfl ?_
      exact ((h5.2.2.2.2.2.2.2 c7).2.1 c9)
    · refine a_aload_n dX5_enter_82 rfl rfl ?_
      refine gf_X5_35 (x := m4 2 0 4) rfl dX5_enter_83 ?_
      refine a_aload_n dX5_enter_86 rfl rfl ?_
      refine gf_X5_40 (x := m4 7 j1 10) (by simp [upM]) dX5_enter_87 ?_
      refine a_iconst (k := (-1)) dX5_enter_90 (n_lit (by decide)) ?_
      refine a_ixor dX5_enter_91 ?_
      refine a_iand dX5_enter_92 ?_
      refine a_goto (tgt := 100) dX5_enter_93 (by decide) ?_
      refine a_istore dX5_enter_100 (by decide) rfl ?_
      refine a_iconst (k := 0) dX5_enter_102 (n_lit (by decide)) ?_
      refine a_istore dX5_enter_103 (by decide) rfl ?_
      exact ((h5.2.2.2.2.2.2.2 c7).2.2 c9)
set_option maxRecDepth 10000 in
theorem sg_X5_enter_105 {d : Nat} {sx : Option (List Int)} (j1 : Nat) (a3 : Int) (a4 : Int) (a5 : Int) (mem : AMem) (Q : Option AV → AMem → Prop) (h : (a3 ≤ a5 → (MtX yX2_letIn cX2_letIn 2 none d [vr 2 0, vi a4] mem (fun r m2 => r = none ∧ (Q none m2)))) ∧ (¬ a3 ≤ a5 → (MtX yX2_everybody cX2_everybody 1 (some .int) d [vr 2 0] mem (fun r m4 => ∃ x6 : Int, r = some (vi x6) ∧ (Y cX5_enter 7 RX5 (d + 1) sx 105 [some (vr 5 0), some (vr 7 j1), some (vr 2 0), some (vi a3), some (vi (or_32 a4 (an32 (an32 x6 (xo32 a4 (-1))) (w32 (-(an32 x6 (xo32 a4 (-1)))))))), some (vi (w32 (a5 + 1))), some (vi (an32 x6 (xo32 a4 (-1))))] [] m4 Q))))) : Y cX5_enter 7 RX5 (d + 1) sx 105 [some (vr 5 0), some (vr 7 j1), some (vr 2 0), some (vi a3), some (vi a4), some (vi a5), none] [] mem Q := by
  refine a_iload dX5_enter_105 rfl ?_
  refine a_iload_n dX5_enter_107 rfl rfl ?_
  refine a_icmp_ge (tgt := 139) dX5_enter_108 (by decide) ⟨fun c1 => ?_, fun c1 => ?_⟩
  · refine a_aload_n dX5_enter_139 rfl rfl ?_
    refine a_iload dX5_enter_140 rfl ?_
    refine iv_X5_46 dX5_enter_142 (Nat.le_of_ble_eq_true rfl) (MtX_mono (h.1 c1) (fun r m2 hq => ?_))
    obtain ⟨rfl, h3⟩ := hq
    refine ⟨rfl, ?_⟩
    exact a_vret dX5_enter_145 h3
  · refine a_aload_n dX5_enter_111 rfl rfl ?_
    refine iv_X5_43 dX5_enter_112 (Nat.le_of_ble_eq_true rfl) (MtX_mono (h.2 c1) (fun r m4 hq => ?_))
    obtain ⟨x6, rfl, h5⟩ := hq
    refine ⟨x6, rfl, ?_⟩
    refine a_iload dX5_enter_115 rfl ?_
    refine a_iconst (k := (-1)) dX5_enter_117 (n_lit (by decide)) ?_
    refine a_ixor dX5_enter_118 ?_
    refine a_iand dX5_enter_119 ?_
    refine a_istore dX5_enter_120 (by decide) rfl ?_
    refine a_iload dX5_enter_122 rfl ?_
    refine a_iload dX5_enter_124 rfl ?_
    refine a_iload dX5_enter_126 rfl ?_
    refine a_ineg dX5_enter_128 ?_
    refine a_iand dX5_enter_129 ?_
    refine a_ior dX5_enter_130 ?_
    refine a_istore dX5_enter_131 (by decide) rfl ?_
    refine a_iinc dX5_enter_133 rfl (by decide) rfl ?_
    refine a_goto (tgt := 105) dX5_enter_136 (by decide) ?_
    exact h5
set_option maxRecDepth 10000 in
theorem sg_X5_keepImage_0 {d : Nat} {sx : Option (List Int)}  (mem : AMem) (Q : Option AV → AMem → Prop) (h : (0 ≤ (0 : Int) ∧ 0 ≤ (0 : Int) ∧ 0 ≤ (5 : Int) ∧ (0 : Int) + (5 : Int) ≤ 5 ∧ (0 : Int) + (5 : Int) ≤ 5) ∧ (MtX yX2_everybody cX2_everybody 1 (some .int) d [vr 2 0] (upM (cpM mem 601 0 0 600 0 0 5) 5 0 2 (mem 2 0 4)) (fun r m1 => ∃ x3 : Int, r = some (vi x3) ∧ (Q none (upM (upM m1 5 0 3 x3) 5 0 4 1))))) : Y cX5_keepImage 2 RX5 (d + 1) sx 0 [some (vr 5 0), some (vr 2 0)] [] mem Q := by
  refine a_aload_n dX5_keepImage_0 rfl rfl ?_
  refine gf_X5_11 dX5_keepImage_1 ?_
  refine a_iconst (k := 0) dX5_keepImage_4 (n_lit (by decide)) ?_
  refine a_aload_n dX5_keepImage_5 rfl rfl ?_
  refine gf_X5_15 dX5_keepImage_6 ?_
  refine a_iconst (k := 0) dX5_keepImage_9 (n_lit (by decide)) ?_
  refine a_iconst (k := 5) dX5_keepImage_10 (n_lit (by decide)) ?_
  refine a_copyI rfl rfl (by decide) rfl rfl (by decide) (by decide) rfl rfl ml_X5_50 mt_ac ms_ac mn_ac (by omega) (Nat.le_of_ble_eq_true rfl) dX5_keepImage_11 ⟨h.1, ?_⟩
  refine a_aload_n dX5_keepImage_14 rfl rfl ?_
  refine a_aload_n dX5_keepImage_15 rfl rfl ?_
  refine gf_X5_35 (x := mem 2 0 4) rfl dX5_keepImage_16 ?_
  refine pf_X5_56 dX5_keepImage_19 ?_
  refine a_aload_n dX5_keepImage_22 rfl rfl ?_
  refine a_aload_n dX5_keepImage_23 rfl rfl ?_
  refine iv_X5_43 dX5_keepImage_24 (Nat.le_of_ble_eq_true rfl) (MtX_mono h.2 (fun r m1 hq => ?_))
  obtain ⟨x3, rfl, h2⟩ := hq
  refine ⟨x3, rfl, ?_⟩
  refine pf_X5_59 dX5_keepImage_27 ?_
  refine a_aload_n dX5_keepImage_30 rfl rfl ?_
  refine a_iconst (k := 1) dX5_keepImage_31 (n_lit (by decide)) ?_
  refine pf_X5_62 (Or.inr rfl) dX5_keepImage_32 ?_
  exact a_vret dX5_keepImage_35 h2
set_option maxRecDepth 10000 in
theorem sg_X5_layBack_0 {d : Nat} {sx : Option (List Int)}  (mem : AMem) (Q : Option AV → AMem → Prop) (h : ((mem 5 0 4) = (0 : Int) → (Q (some (vi (mem 5 0 4))) mem)) ∧ (¬ (mem 5 0 4) = (0 : Int) → ((0 ≤ (0 : Int) ∧ 0 ≤ (0 : Int) ∧ 0 ≤ (5 : Int) ∧ (0 : Int) + (5 : Int) ≤ 5 ∧ (0 : Int) + (5 : Int) ≤ 5) ∧ (MtX yX2_letIn cX2_letIn 2 none d [vr 2 0, vi (or_32 (an32 (mem 2 0 4) (xo32 (mem 5 0 3) (-1))) (mem 5 0 2))] (cpM mem 600 0 0 601 0 0 5) (fun r m2 => r = none ∧ (Q (some (vi (m2 5 0 4))) m2)))))) : Y cX5_layBack 2 RX5 (d + 1) sx 0 [some (vr 5 0), some (vr 2 0)] [] mem Q := by
  refine a_aload_n dX5_layBack_0 rfl rfl ?_
  refine gf_X5_62 (x := mem 5 0 4) rfl dX5_layBack_1 ?_
  refine a_if_eq (tgt := 41) dX5_layBack_4 (by decide) ⟨fun c1 => ?_, fun c1 => ?_⟩
  · refine a_aload_n dX5_layBack_41 rfl rfl ?_
    refine gf_X5_62 (x := mem 5 0 4) rfl dX5_layBack_42 ?_
    exact a_iret dX5_layBack_45 (h.1 c1)
  · refine a_aload_n dX5_layBack_7 rfl rfl ?_
    refine gf_X5_15 dX5_layBack_8 ?_
    refine a_iconst (k := 0) dX5_layBack_11 (n_lit (by decide)) ?_
    refine a_aload_n dX5_layBack_12 rfl rfl ?_
    refine gf_X5_11 dX5_layBack_13 ?_
    refine a_iconst (k := 0) dX5_layBack_16 (n_lit (by decide)) ?_
    refine a_iconst (k := 5) dX5_layBack_17 (n_lit (by decide)) ?_
    refine a_copyI rfl rfl (by decide) rfl rfl (by decide) (by decide) rfl rfl ml_X5_50 mt_ac ms_ac mn_ac (by omega) (Nat.le_of_ble_eq_true rfl) dX5_layBack_18 ⟨(h.2 c1).1, ?_⟩
    refine a_aload_n dX5_layBack_21 rfl rfl ?_
    refine a_aload_n dX5_layBack_22 rfl rfl ?_
    refine gf_X5_35 (x := mem 2 0 4) rfl dX5_layBack_23 ?_
    refine a_aload_n dX5_layBack_26 rfl rfl ?_
    refine gf_X5_59 (x := mem 5 0 3) rfl dX5_layBack_27 ?_
    refine a_iconst (k := (-1)) dX5_layBack_30 (n_lit (by decide)) ?_
    refine a_ixor dX5_layBack_31 ?_
    refine a_iand dX5_layBack_32 ?_
    refine a_aload_n dX5_layBack_33 rfl rfl ?_
    refine gf_X5_56 (x := mem 5 0 2) rfl dX5_layBack_34 ?_
    refine a_ior dX5_layBack_37 ?_
    refine iv_X5_46 dX5_layBack_38 (Nat.le_of_ble_eq_true rfl) (MtX_mono (h.2 c1).2 (fun r m2 hq => ?_))
    obtain ⟨rfl, h3⟩ := hq
    refine ⟨rfl, ?_⟩
    refine a_aload_n dX5_layBack_41 rfl rfl ?_
    refine gf_X5_62 (x := m2 5 0 4) rfl dX5_layBack_42 ?_
    exact a_iret dX5_layBack_45 h3
set_option maxRecDepth 10000 in
theorem sg_X6_weigh_0 {d : Nat} {sx : Option (List Int)} (a2 : Int) (a3 : Int) (a4 : Int) (a5 : Int) (mem : AMem) (Q : Option AV → AMem → Prop) (h : Y cX6_weigh 10 RX6 (d + 1) sx 8 [some (vr 6 0), some (vr 2 0), some (vi a2), some (vi a3), some (vi a4), some (vi a5), some (vi (w32 (3 * a2))), some (vi 0), none, none] [] mem Q) : Y cX6_weigh 10 RX6 (d + 1) sx 0 [some (vr 6 0), some (vr 2 0), some (vi a2), some (vi a3), some (vi a4), some (vi a5), none, none, none, none] [] mem Q := by
  refine a_iconst (k := 3) dX6_weigh_0 (n_lit (by decide)) ?_
  refine a_iload_n dX6_weigh_1 rfl rfl ?_
  refine a_imul dX6_weigh_2 ?_
  refine a_istore dX6_weigh_3 (by decide) rfl ?_
  refine a_iconst (k := 0) dX6_weigh_5 (n_lit (by decide)) ?_
  refine a_istore dX6_weigh_6 (by decide) rfl ?_
  exact h
set_option maxRecDepth 10000 in
theorem sg_X6_weigh_8 {d : Nat} {sx : Option (List Int)} (a2 : Int) (a3 : Int) (a4 : Int) (a5 : Int) (a6 : Int) (a7 : Int) (mem : AMem) (Q : Option AV → AMem → Prop) (h : ((2 : Int) < a7 → (Y cX6_weigh 10 RX6 (d + 1) sx 88 [some (vr 6 0), some (vr 2 0), some (vi a2), some (vi a3), some (vi a4), some (vi a5), some (vi a6), some (vi 1), none, none] [] (upM mem 6 0 3 0) Q)) ∧ (¬ (2 : Int) < a7 → (Y cX6_weigh 10 RX6 (d + 1) sx 17 [some (vr 6 0), some (vr 2 0), some (vi a2), some (vi a3), some (vi a4), some (vi a5), some (vi a6), some (vi a7), some (vi 0), none] [] mem Q))) : Y cX6_weigh 10 RX6 (d + 1) sx 8 [some (vr 6 0), some (vr 2 0), some (vi a2), some (vi a3), some (vi a4), some (vi a5), some (vi a6), some (vi a7), none, none] [] mem Q := by
  refine a_iload dX6_weigh_8 rfl ?_
  refine a_iconst (k := 2) dX6_weigh_10 (n_lit (by decide)) ?_
  refine a_icmp_gt (tgt := 80) dX6_weigh_11 (by decide) ⟨fun c1 => ?_, fun c1 => ?_⟩
  · refine a_aload_n dX6_weigh_80 rfl rfl ?_
    refine a_iconst (k := 0) dX6_weigh_81 (n_lit (by decide)) ?_
    refine pf_X6_20 dX6_weigh_82 ?_
    refine a_iconst (k := 1) dX6_weigh_85 (n_lit (by decide)) ?_
    refine a_istore dX6_weigh_86 (by decide) rfl ?_
    exact (h.1 c1)
  · refine a_iconst (k := 0) dX6_weigh_14 (n_lit (by decide)) ?_
    refine a_istore dX6_weigh_15 (by decide) rfl ?_
    exact (h.2 c1)
set_option maxRecDepth 10000 in
theorem sg_X6_weigh_17 {d : Nat} {sx : Option (List Int)} (a2 : Int) (a3 : Int) (a4 : Int) (a5 : Int) (a6 : Int) (a7 : Int) (a8 : Int) (mem : AMem) (Q : Option AV → AMem → Prop) (h : (a6 < a8 → (Y cX6_weigh 10 RX6 (d + 1) sx 8 [some (vr 6 0), some (vr 2 0), some (vi a2), some (vi a3), some (vi a4), some (vi a5), some (vi a6), some (vi (w32 (a7 + 1))), some (vi a8), none] [] mem Q)) ∧ (¬ a6 < a8 → (((w32 ((w32 (a3 - (w32 (2 * a2)))) + a8)) ≤ (0 : Int) → (((w32 ((w32 (a3 - (w32 (2 * a2)))) + a8)) ≠ (0 : Int) → ((0 ≤ (w32 ((w32 (a7 * 61)) + a8)) ∧ (w32 ((w32 (a7 * 61)) + a8)) < 183) ∧ (Y cX6_weigh 10 RX6 (d + 1) sx 17 [some (vr 6 0), some (vr 2 0), some (vi a2), some (vi a3), some (vi a4), some (vi a5), some (vi a6), some (vi a7), some (vi (w32 (a8 + 1))), some (vi (w32 ((w32 (a3 - (w32 (2 * a2)))) + a8)))] [] (upM mem 700 0 (w32 ((w32 (a7 * 61)) + a8)) 0) Q))) ∧ ((w32 ((w32 (a3 - (w32 (2 * a2)))) + a8)) = (0 : Int) → ((0 ≤ (w32 ((w32 (a7 * 61)) + a8)) ∧ (w32 ((w32 (a7 * 61)) + a8)) < 183) ∧ (Y cX6_weigh 10 RX6 (d + 1) sx 17 [some (vr 6 0), some (vr 2 0), some (vi a2), some (vi a3), some (vi a4), some (vi a5), some (vi a6), some (vi a7), some (vi (w32 (a8 + 1))), some (vi (w32 ((w32 (a3 - (w32 (2 * a2)))) + a8)))] [] (upM mem 700 0 (w32 ((w32 (a7 * 61)) + a8)) 500000) Q))))) ∧ (¬ (w32 ((w32 (a3 - (w32 (2 * a2)))) + a8)) ≤ (0 : Int) → ((0 ≤ (w32 ((w32 (a7 * 61)) + a8)) ∧ (w32 ((w32 (a7 * 61)) + a8)) < 183) ∧ (Y cX6_weigh 10 RX6 (d + 1) sx 17 [some (vr 6 0), some (vr 2 0), some (vi a2), some (vi a3), some (vi a4), some (vi a5), some (vi a6), some (vi a7), some (vi (w32 (a8 + 1))), some (vi (w32 ((w32 (a3 - (w32 (2 * a2)))) + a8)))] [] (upM mem 700 0 (w32 ((w32 (a7 * 61)) + a8)) 1000000) Q)))))) : Y cX6_weigh 10 RX6 (d + 1) sx 17 [some (vr 6 0), some (vr 2 0), some (vi a2), some (vi a3), some (vi a4), some (vi a5), some (vi a6), some (vi a7), some (vi a8), none] [] mem Q := by
  refine a_iload dX6_weigh_17 rfl ?_
  refine a_iload dX6_weigh_19 rfl ?_
  refine a_icmp_gt (tgt := 74) dX6_weigh_21 (by decide) ⟨fun c1 => ?_, fun c1 => ?_⟩
  · refine a_iinc dX6_weigh_74 rfl (by decide) rfl ?_
    refine a_goto (tgt := 8) dX6_weigh_77 (by decide) ?_
    exact (h.1 c1)
  · refine a_iload_n dX6_weigh_24 rfl rfl ?_
    refine a_iconst (k := 2) dX6_weigh_25 (n_lit (by decide)) ?_
    refine a_iload_n dX6_weigh_26 rfl rfl ?_
    refine a_imul dX6_weigh_27 ?_
    refine a_isub dX6_weigh_28 ?_
    refine a_iload dX6_weigh_29 rfl ?_
    refine a_iadd dX6_weigh_31 ?_
    refine a_istore dX6_weigh_32 (by decide) rfl ?_
    refine a_aload_n dX6_weigh_34 rfl rfl ?_
    refine gf_X6_11 dX6_weigh_35 ?_
    refine a_iload dX6_weigh_38 rfl ?_
    refine a_bipush (k := 61) dX6_weigh_40 (by decide) (n_lit (by decide)) ?_
    refine a_imul dX6_weigh_42 ?_
    refine a_iload dX6_weigh_43 rfl ?_
    refine a_iadd dX6_weigh_45 ?_
    refine a_iload dX6_weigh_46 rfl ?_
    refine a_if_le (tgt := 56) dX6_weigh_48 (by decide) ⟨fun c2 => ?_, fun c2 => ?_⟩
    · refine a_iload dX6_weigh_56 rfl ?_
      refine a_if_ne (tgt := 66) dX6_weigh_58 (by decide) ⟨fun c3 => ?_, fun c3 => ?_⟩
      · refine a_iconst (k := 0) dX6_weigh_66 (n_lit (by decide)) ?_
        refine a_iast rfl rfl (by decide) rfl dX6_weigh_67 ⟨(((h.2 c1).1 c2).1 c3).1, ?_⟩
        refine a_iinc dX6_weigh_68 rfl (by decide) rfl ?_
        refine a_goto (tgt := 17) dX6_weigh_71 (by decide) ?_
        exact (((h.2 c1).1 c2).1 c3).2
      · refine a_ldc (k := 500000) co_X6_19 (n_lit (by decide)) dX6_weigh_61 ?_
        refine a_goto (tgt := 67) dX6_weigh_63 (by decide) ?_
        refine a_iast rfl rfl (by decide) rfl dX6_weigh_67 ⟨(((h.2 c1).1 c2).2 c3).1, ?_⟩
        refine a_iinc dX6_weigh_68 rfl (by decide) rfl ?_
        refine a_goto (tgt := 17) dX6_weigh_71 (by decide) ?_
        exact (((h.2 c1).1 c2).2 c3).2
    · refine a_ldc (k := 1000000) co_X6_18 (n_lit (by decide)) dX6_weigh_51 ?_
      refine a_goto (tgt := 67) dX6_weigh_53 (by decide) ?_
      refine a_iast rfl rfl (by decide) rfl dX6_weigh_67 ⟨((h.2 c1).2 c2).1, ?_⟩
      refine a_iinc dX6_weigh_68 rfl (by decide) rfl ?_
      refine a_goto (tgt := 17) dX6_weigh_71 (by decide) ?_
      exact ((h.2 c1).2 c2).2
set_option maxRecDepth 10000 in
theorem sg_X6_weigh_88 {d : Nat} {sx : Option (List Int)} (a2 : Int) (a3 : Int) (a4 : Int) (a5 : Int) (a6 : Int) (a7 : Int) (mem : AMem) (Q : Option AV → AMem → Prop) (h : (a2 < a7 → ((0 ≤ (w32 ((w32 (a4 * 61)) + (w32 (2 * a2)))) ∧ (w32 ((w32 (a4 * 61)) + (w32 (2 * a2)))) < 183) ∧ (Q none (upM mem 6 0 2 (mem 700 0 (w32 ((w32 (a4 * 61)) + (w32 (2 * a2))))))))) ∧ (¬ a2 < a7 → ((0 ≤ (13 : Int) ∧ (13 : Int) < 14) ∧ (MtX yX6_theirTurn cX6_theirTurn 7 none d [vr 6 0, vi (mem 303 0 13), vi (w32 ((w32 (2 * a7)) - 1)), vi (w32 ((w32 (a6 - a7)) + 1))] mem (fun r m2 => r = none ∧ (MtX yX6_ourTurn cX6_ourTurn 12 none d [vr 6 0, vr 2 0, vi (w32 (2 * a7)), vi (w32 (a6 - a7)), vi a5, vi a4] m2 (fun r m4 => r = none ∧ (Y cX6_weigh 10 RX6 (d + 1) sx 88 [some (vr 6 0), some (vr 2 0), some (vi a2), some (vi a3), some (vi a4), some (vi a5), some (vi a6), some (vi (w32 (a7 + 1))), some (vi (w32 (2 * a7))), some (vi (w32 (a6 - a7)))] [] m4 Q)))))))) : Y cX6_weigh 10 RX6 (d + 1) sx 88 [some (vr 6 0), some (vr 2 0), some (vi a2), some (vi a3), some (vi a4), some (vi a5), some (vi a6), some (vi a7), none, none] [] mem Q := by
  refine a_iload dX6_weigh_88 rfl ?_
  refine a_iload_n dX6_weigh_90 rfl rfl ?_
  refine a_icmp_gt (tgt := 145) dX6_weigh_91 (by decide) ⟨fun c1 => ?_, fun c1 => ?_⟩
  · refine a_aload_n dX6_weigh_145 rfl rfl ?_
    refine a_aload_n dX6_weigh_146 rfl rfl ?_
    refine gf_X6_11 dX6_weigh_147 ?_
    refine a_iload dX6_weigh_150 rfl ?_
    refine a_bipush (k := 61) dX6_weigh_152 (by decide) (n_lit (by decide)) ?_
    refine a_imul dX6_weigh_154 ?_
    refine a_iconst (k := 2) dX6_weigh_155 (n_lit (by decide)) ?_
    refine a_iload_n dX6_weigh_156 rfl rfl ?_
    refine a_imul dX6_weigh_157 ?_
    refine a_iadd dX6_weigh_158 ?_
    refine a_iald rfl rfl (by decide) rfl dX6_weigh_159 ⟨(h.1 c1).1, ?_⟩
    refine pf_X6_37 dX6_weigh_160 ?_
    exact a_vret dX6_weigh_163 (h.1 c1).2
  · refine a_iconst (k := 2) dX6_weigh_94 (n_lit (by decide)) ?_
    refine a_iload dX6_weigh_95 rfl ?_
    refine a_imul dX6_weigh_97 ?_
    refine a_istore dX6_weigh_98 (by decide) rfl ?_
    refine a_iload dX6_weigh_100 rfl ?_
    refine a_iload dX6_weigh_102 rfl ?_
    refine a_isub dX6_weigh_104 ?_
    refine a_istore dX6_weigh_105 (by decide) rfl ?_
    refine a_aload_n dX6_weigh_107 rfl rfl ?_
    refine a_aload_n dX6_weigh_108 rfl rfl ?_
    refine gf_X6_24 dX6_weigh_109 ?_
    refine a_bipush (k := 13) dX6_weigh_112 (by decide) (n_lit (by decide)) ?_
    refine a_iald rfl rfl (by decide) rfl dX6_weigh_114 ⟨(h.2 c1).1, ?_⟩
    refine a_iload dX6_weigh_115 rfl ?_
    refine a_iconst (k := 1) dX6_weigh_117 (n_lit (by decide)) ?_
    refine a_isub dX6_weigh_118 ?_
    refine a_iload dX6_weigh_119 rfl ?_
    refine a_iconst (k := 1) dX6_weigh_121 (n_lit (by decide)) ?_
    refine a_iadd dX6_weigh_122 ?_
    refine iv_X6_29 dX6_weigh_123 (Nat.le_of_ble_eq_true rfl) (MtX_mono (h.2 c1).2 (fun r m2 hq => ?_))
    obtain ⟨rfl, h3⟩ := hq
    refine ⟨rfl, ?_⟩
    refine a_aload_n dX6_weigh_126 rfl rfl ?_
    refine a_aload_n dX6_weigh_127 rfl rfl ?_
    refine a_iload dX6_weigh_128 rfl ?_
    refine a_iload dX6_weigh_130 rfl ?_
    refine a_iload dX6_weigh_132 rfl ?_
    refine a_iload dX6_weigh_134 rfl ?_
    refine iv_X6_33 dX6_weigh_136 (Nat.le_of_ble_eq_true rfl) (MtX_mono h3 (fun r m4 hq => ?_))
    obtain ⟨rfl, h5⟩ := hq
    refine ⟨rfl, ?_⟩
    refine a_iinc dX6_weigh_139 rfl (by decide) rfl ?_
    refine a_goto (tgt := 88) dX6_weigh_142 (by decide) ?_
    exact h5
set_option maxRecDepth 10000 in
theorem sg_X6_theirTurn_0 {d : Nat} {sx : Option (List Int)} (a1 : Int) (a2 : Int) (a3 : Int) (mem : AMem) (Q : Option AV → AMem → Prop) (h : Y cX6_theirTurn 7 RX6 (d + 1) sx 3 [some (vr 6 0), some (vi a1), some (vi a2), some (vi a3), some (vi 0), none, none] [] mem Q) : Y cX6_theirTurn 7 RX6 (d + 1) sx 0 [some (vr 6 0), some (vi a1), some (vi a2), some (vi a3), none, none, none] [] mem Q := by
  refine a_iconst (k := 0) dX6_theirTurn_0 (n_lit (by decide)) ?_
  refine a_istore dX6_theirTurn_1 (by decide) rfl ?_
  exact h
set_option maxRecDepth 10000 in
theorem sg_X6_theirTurn_3 {d : Nat} {sx : Option (List Int)} (a1 : Int) (a2 : Int) (a3 : Int) (a4 : Int) (mem : AMem) (Q : Option AV → AMem → Prop) (h : ((2 : Int) < a4 → (Q none mem)) ∧ (¬ (2 : Int) < a4 → (Y cX6_theirTurn 7 RX6 (d + 1) sx 12 [some (vr 6 0), some (vi a1), some (vi a2), some (vi a3), some (vi a4), some (vi a2), none] [] mem Q))) : Y cX6_theirTurn 7 RX6 (d + 1) sx 3 [some (vr 6 0), some (vi a1), some (vi a2), some (vi a3), some (vi a4), none, none] [] mem Q := by
  refine a_iload dX6_theirTurn_3 rfl ?_
  refine a_iconst (k := 2) dX6_theirTurn_5 (n_lit (by decide)) ?_
  refine a_icmp_gt (tgt := 74) dX6_theirTurn_6 (by decide) ⟨fun c1 => ?_, fun c1 => ?_⟩
  · exact a_vret dX6_theirTurn_74 (h.1 c1)
  · refine a_iload_n dX6_theirTurn_9 rfl rfl ?_
    refine a_istore dX6_theirTurn_10 (by decide) rfl ?_
    exact (h.2 c1)
set_option maxRecDepth 10000 in
theorem sg_X6_theirTurn_12 {d : Nat} {sx : Option (List Int)} (a1 : Int) (a2 : Int) (a3 : Int) (a4 : Int) (a5 : Int) (mem : AMem) (Q : Option AV → AMem → Prop) (h : (a3 < a5 → (Y cX6_theirTurn 7 RX6 (d + 1) sx 3 [some (vr 6 0), some (vi a1), some (vi a2), some (vi a3), some (vi (w32 (a4 + 1))), some (vi a5), none] [] mem Q)) ∧ (¬ a3 < a5 → ((0 ≤ (w32 ((w32 ((w32 (a4 * 61)) + a5)) - 1)) ∧ (w32 ((w32 ((w32 (a4 * 61)) + a5)) - 1)) < 183) ∧ ((0 ≤ (w32 ((w32 (a4 * 61)) + a5)) ∧ (w32 ((w32 (a4 * 61)) + a5)) < 183) ∧ ((0 ≤ (w32 ((w32 (a4 * 61)) + a5)) ∧ (w32 ((w32 (a4 * 61)) + a5)) < 183) ∧ (Y cX6_theirTurn 7 RX6 (d + 1) sx 12 [some (vr 6 0), some (vi a1), some (vi a2), some (vi a3), some (vi a4), some (vi (w32 (a5 + 1))), some (vi (w32 ((w32 (a4 * 61)) + a5)))] [] (upM mem 701 0 (w32 ((w32 (a4 * 61)) + a5)) (w32 (Int.tdiv (w32 ((w32 (a1 * (mem 700 0 (w32 ((w32 ((w32 (a4 * 61)) + a5)) - 1))))) + (w32 ((w32 (12 - a1)) * (mem 700 0 (w32 ((w32 (a4 * 61)) + a5))))))) 12))) Q)))))) : Y cX6_theirTurn 7 RX6 (d + 1) sx 12 [some (vr 6 0), some (vi a1), some (vi a2), some (vi a3), some (vi a4), some (vi a5), none] [] mem Q := by
  refine a_iload dX6_theirTurn_12 rfl ?_
  refine a_iload_n dX6_theirTurn_14 rfl rfl ?_
  refine a_icmp_gt (tgt := 68) dX6_theirTurn_15 (by decide) ⟨fun c1 => ?_, fun c1 => ?_⟩
  · refine a_iinc dX6_theirTurn_68 rfl (by decide) rfl ?_
    refine a_goto (tgt := 3) dX6_theirTurn_71 (by decide) ?_
    exact (h.1 c1)
  · refine a_iload dX6_theirTurn_18 rfl ?_
    refine a_bipush (k := 61) dX6_theirTurn_20 (by decide) (n_lit (by decide)) ?_
    refine a_imul dX6_theirTurn_22 ?_
    refine a_iload dX6_theirTurn_23 rfl ?_
    refine a_iadd dX6_theirTurn_25 ?_
    refine a_istore dX6_theirTurn_26 (by decide) rfl ?_
    refine a_aload_n dX6_theirTurn_28 rfl rfl ?_
    refine gf_X6_15 dX6_theirTurn_29 ?_
    refine a_iload dX6_theirTurn_32 rfl ?_
    refine a_iload_n dX6_theirTurn_34 rfl rfl ?_
    refine a_aload_n dX6_theirTurn_35 rfl rfl ?_
    refine gf_X6_11 dX6_theirTurn_36 ?_
    refine a_iload dX6_theirTurn_39 rfl ?_
    refine a_iconst (k := 1) dX6_theirTurn_41 (n_lit (by decide)) ?_
    refine a_isub dX6_theirTurn_42 ?_
    refine a_iald rfl rfl (by decide) rfl dX6_theirTurn_43 ⟨(h.2 c1).1, ?_⟩
    refine a_imul dX6_theirTurn_44 ?_
    refine a_bipush (k := 12) dX6_theirTurn_45 (by decide) (n_lit (by decide)) ?_
    refine a_iload_n dX6_theirTurn_47 rfl rfl ?_
    refine a_isub dX6_theirTurn_48 ?_
    refine a_aload_n dX6_theirTurn_49 rfl rfl ?_
    refine gf_X6_11 dX6_theirTurn_50 ?_
    refine a_iload dX6_theirTurn_53 rfl ?_
    refine a_iald rfl rfl (by decide) rfl dX6_theirTurn_55 ⟨(h.2 c1).2.1, ?_⟩
    refine a_imul dX6_theirTurn_56 ?_
    refine a_iadd dX6_theirTurn_57 ?_
    refine a_bipush (k := 12) dX6_theirTurn_58 (by decide) (n_lit (by decide)) ?_
    refine a_idiv dX6_theirTurn_60 (by decide) ?_
    refine a_iast rfl rfl (by decide) rfl dX6_theirTurn_61 ⟨(h.2 c1).2.2.1, ?_⟩
    refine a_iinc dX6_theirTurn_62 rfl (by decide) rfl ?_
    refine a_goto (tgt := 12) dX6_theirTurn_65 (by decide) ?_
    exact (h.2 c1).2.2.2
set_option maxRecDepth 10000 in
theorem sg_X6_ourTurn_0 {d : Nat} {sx : Option (List Int)} (a2 : Int) (a3 : Int) (a4 : Int) (a5 : Int) (mem : AMem) (Q : Option AV → AMem → Prop) (h : Y cX6_ourTurn 12 RX6 (d + 1) sx 9 [some (vr 6 0), some (vr 2 0), some (vi a2), some (vi a3), some (vi a4), some (vi a5), some (vr 303 0), some (vi 0), none, none, none, none] [] mem Q) : Y cX6_ourTurn 12 RX6 (d + 1) sx 0 [some (vr 6 0), some (vr 2 0), some (vi a2), some (vi a3), some (vi a4), some (vi a5), none, none, none, none, none, none] [] mem Q := by
  refine a_aload_n dX6_ourTurn_0 rfl rfl ?_
  refine gf_X6_24 dX6_ourTurn_1 ?_
  refine a_astore dX6_ourTurn_4 (by decide) rfl ?_
  refine a_iconst (k := 0) dX6_ourTurn_6 (n_lit (by decide)) ?_
  refine a_istore dX6_ourTurn_7 (by decide) rfl ?_
  exact h
set_option maxRecDepth 10000 in
theorem sg_X6_ourTurn_9 {d : Nat} {sx : Option (List Int)} (a2 : Int) (a3 : Int) (a4 : Int) (a5 : Int) (a7 : Int) (mem : AMem) (Q : Option AV → AMem → Prop) (h : ((2 : Int) < a7 → (Q none mem)) ∧ (¬ (2 : Int) < a7 → (Y cX6_ourTurn 12 RX6 (d + 1) sx 18 [some (vr 6 0), some (vr 2 0), some (vi a2), some (vi a3), some (vi a4), some (vi a5), some (vr 303 0), some (vi a7), some (vi a2), none, none, none] [] mem Q))) : Y cX6_ourTurn 12 RX6 (d + 1) sx 9 [some (vr 6 0), some (vr 2 0), some (vi a2), some (vi a3), some (vi a4), some (vi a5), some (vr 303 0), some (vi a7), none, none, none, none] [] mem Q := by
  refine a_iload dX6_ourTurn_9 rfl ?_
  refine a_iconst (k := 2) dX6_ourTurn_11 (n_lit (by decide)) ?_
  refine a_icmp_gt (tgt := 131) dX6_ourTurn_12 (by decide) ⟨fun c1 => ?_, fun c1 => ?_⟩
  · exact a_vret dX6_ourTurn_131 (h.1 c1)
  · refine a_iload_n dX6_ourTurn_15 rfl rfl ?_
    refine a_istore dX6_ourTurn_16 (by decide) rfl ?_
    exact (h.2 c1)
set_option maxRecDepth 10000 in
theorem sg_X6_ourTurn_18 {d : Nat} {sx : Option (List Int)} (a2 : Int) (a3 : Int) (a4 : Int) (a5 : Int) (a7 : Int) (a8 : Int) (mem : AMem) (Q : Option AV → AMem → Prop) (h : (a3 < a8 → (Y cX6_ourTurn 12 RX6 (d + 1) sx 9 [some (vr 6 0), some (vr 2 0), some (vi a2), some (vi a3), some (vi a4), some (vi a5), some (vr 303 0), some (vi (w32 (a7 + 1))), some (vi a8), none, none, none] [] mem Q)) ∧ (¬ a3 < a8 → (MtX yX6_ifEmpty cX6_ifEmpty 4 (some .int) d [vr 6 0, vi a7, vi a8, vi a4] mem (fun r m2 => ∃ x4 : Int, r = some (vi x4) ∧ ((0 ≤ (9 : Int) ∧ (9 : Int) < 14) ∧ ((0 ≤ (10 : Int) ∧ (10 : Int) < 14) ∧ (MtX yX6_ofRaid cX6_ofRaid 7 (some .int) d [vr 6 0, vi (m2 303 0 9), vi (m2 303 0 10), vi a8, vi x4] m2 (fun r m5 => ∃ x7 : Int, r = some (vi x7) ∧ ((0 ≤ (11 : Int) ∧ (11 : Int) < 14) ∧ ((0 ≤ (12 : Int) ∧ (12 : Int) < 14) ∧ (MtX yX6_ofRaid cX6_ofRaid 7 (some .int) d [vr 6 0, vi (m5 303 0 11), vi (m5 303 0 12), vi a8, vi x4] m5 (fun r m8 => ∃ x10 : Int, r = some (vi x10) ∧ ((0 ≤ (w32 ((w32 (a7 * 61)) + a8)) ∧ (w32 ((w32 (a7 * 61)) + a8)) < 183) ∧ ((a7 ≠ a5 → (Y cX6_ourTurn 12 RX6 (d + 1) sx 18 [some (vr 6 0), some (vr 2 0), some (vi a2), some (vi a3), some (vi a4), some (vi a5), some (vr 303 0), some (vi a7), some (vi (w32 (a8 + 1))), some (vi x4), some (vi x7), some (vi x10)] [] (upM m8 700 0 (w32 ((w32 (a7 * 61)) + a8)) (max x7 x10)) Q)) ∧ (a7 = a5 → ((x7 ≤ x10 → (Y cX6_ourTurn 12 RX6 (d + 1) sx 18 [some (vr 6 0), some (vr 2 0), some (vi a2), some (vi a3), some (vi a4), some (vi a5), some (vr 303 0), some (vi a7), some (vi (w32 (a8 + 1))), some (vi x4), some (vi x7), some (vi x10)] [] (upM (upM m8 700 0 (w32 ((w32 (a7 * 61)) + a8)) (max x7 x10)) 6 0 3 0) Q)) ∧ (¬ x7 ≤ x10 → (Y cX6_ourTurn 12 RX6 (d + 1) sx 18 [some (vr 6 0), some (vr 2 0), some (vi a2), some (vi a3), some (vi a4), some (vi a5), some (vr 303 0), some (vi a7), some (vi (w32 (a8 + 1))), some (vi x4), some (vi x7), some (vi x10)] [] (upM (upM m8 700 0 (w32 ((w32 (a7 * 61)) + a8)) (max x7 x10)) 6 0 3 1) Q)))))))))))))))))) : Y cX6_ourTurn 12 RX6 (d + 1) sx 18 [some (vr 6 0), some (vr 2 0), some (vi a2), some (vi a3), some (vi a4), some (vi a5), some (vr 303 0), some (vi a7), some (vi a8), none, none, none] [] mem Q := by
  refine a_iload dX6_ourTurn_18 rfl ?_
  refine a_iload_n dX6_ourTurn_20 rfl rfl ?_
  refine a_icmp_gt (tgt := 125) dX6_ourTurn_21 (by decide) ⟨fun c1 => ?_, fun c1 => ?_⟩
  · refine a_iinc dX6_ourTurn_125 rfl (by decide) rfl ?_
    refine a_goto (tgt := 9) dX6_ourTurn_128 (by decide) ?_
    exact (h.1 c1)
  · refine a_aload_n dX6_ourTurn_24 rfl rfl ?_
    refine a_iload dX6_ourTurn_25 rfl ?_
    refine a_iload dX6_ourTurn_27 rfl ?_
    refine a_iload dX6_ourTurn_29 rfl ?_
    refine iv_X6_40 dX6_ourTurn_31 (Nat.le_of_ble_eq_true rfl) (MtX_mono (h.2 c1) (fun r m2 hq => ?_))
    obtain ⟨x4, rfl, h3⟩ := hq
    refine ⟨x4, rfl, ?_⟩
    refine a_istore dX6_ourTurn_34 (by decide) rfl ?_
    refine a_aload_n dX6_ourTurn_36 rfl rfl ?_
    refine a_aload dX6_ourTurn_37 rfl ?_
    refine a_bipush (k := 9) dX6_ourTurn_39 (by decide) (n_lit (by decide)) ?_
    refine a_iald rfl rfl (by decide) rfl dX6_ourTurn_41 ⟨h3.1, ?_⟩
    refine a_aload dX6_ourTurn_42 rfl ?_
    refine a_bipush (k := 10) dX6_ourTurn_44 (by decide) (n_lit (by decide)) ?_
    refine a_iald rfl rfl (by decide) rfl dX6_ourTurn_46 ⟨h3.2.1, ?_⟩
    refine a_iload dX6_ourTurn_47 rfl ?_
    refine a_iload dX6_ourTurn_49 rfl ?_
    refine iv_X6_44 dX6_ourTurn_51 (Nat.le_of_ble_eq_true rfl) (MtX_mono h3.2.2 (fun r m5 hq => ?_))
    obtain ⟨x7, rfl, h6⟩ := hq
    refine ⟨x7, rfl, ?_⟩
    refine a_istore dX6_ourTurn_54 (by decide) rfl ?_
    refine a_aload_n dX6_ourTurn_56 rfl rfl ?_
    refine a_aload dX6_ourTurn_57 rfl ?_
    refine a_bipush (k := 11) dX6_ourTurn_59 (by decide) (n_lit (by decide)) ?_
    refine a_iald rfl rfl (by decide) rfl dX6_ourTurn_61 ⟨h6.1, ?_⟩
    refine a_aload dX6_ourTurn_62 rfl ?_
    refine a_bipush (k := 12) dX6_ourTurn_64 (by decide) (n_lit (by decide)) ?_
    refine a_iald rfl rfl (by decide) rfl dX6_ourTurn_66 ⟨h6.2.1, ?_⟩
    refine a_iload dX6_ourTurn_67 rfl ?_
    refine a_iload dX6_ourTurn_69 rfl ?_
    refine iv_X6_44 dX6_ourTurn_71 (Nat.le_of_ble_eq_true rfl) (MtX_mono h6.2.2 (fun r m8 hq => ?_))
    obtain ⟨x10, rfl, h9⟩ := hq
    refine ⟨x10, rfl, ?_⟩
    refine a_istore dX6_ourTurn_74 (by decide) rfl ?_
    refine a_aload_n dX6_ourTurn_76 rfl rfl ?_
    refine gf_X6_11 dX6_ourTurn_77 ?_
    refine a_iload dX6_ourTurn_80 rfl ?_
    refine a_bipush (k := 61) dX6_ourTurn_82 (by decide) (n_lit (by decide)) ?_
    refine a_imul dX6_ourTurn_84 ?_
    refine a_iload dX6_ourTurn_85 rfl ?_
    refine a_iadd dX6_ourTurn_87 ?_
    refine a_iload dX6_ourTurn_88 rfl ?_
    refine a_iload dX6_ourTurn_90 rfl ?_
    refine a_max ml_X6_48 ms_Math_max mn_Math mc_Math_max (by omega) (Nat.le_of_ble_eq_true rfl) dX6_ourTurn_92 ?_
    refine a_iast rfl rfl (by decide) rfl dX6_ourTurn_95 ⟨h9.1, ?_⟩
    refine a_iload dX6_ourTurn_96 rfl ?_
    refine a_iload dX6_ourTurn_98 rfl ?_
    refine a_icmp_ne (tgt := 119) dX6_ourTurn_100 (by decide) ⟨fun c11 => ?_, fun c11 => ?_⟩
    · refine a_iinc dX6_ourTurn_119 rfl (by decide) rfl ?_
      refine a_goto (tgt := 18) dX6_ourTurn_122 (by decide) ?_
      exact (h9.2.1 c11)
    · refine a_aload_n dX6_ourTurn_103 rfl rfl ?_
      refine a_iload dX6_ourTurn_104 rfl ?_
      refine a_iload dX6_ourTurn_106 rfl ?_
      refine a_icmp_le (tgt := 115) dX6_ourTurn_108 (by decide) ⟨fun c12 => ?_, fun c12 => ?_⟩
      · refine a_iconst (k := 0) dX6_ourTurn_115 (n_lit (by decide)) ?_
        refine pf_X6_20 dX6_ourTurn_116 ?_
        refine a_iinc dX6_ourTurn_119 rfl (by decide) rfl ?_
        refine a_goto (tgt := 18) dX6_ourTurn_122 (by decide) ?_
        exact ((h9.2.2 c11).1 c12)
      · refine a_iconst (k := 1) dX6_ourTurn_111 (n_lit (by decide)) ?_
        refine a_goto (tgt := 116) dX6_ourTurn_112 (by decide) ?_
        refine pf_X6_20 dX6_ourTurn_116 ?_
        refine a_iinc dX6_ourTurn_119 rfl (by decide) rfl ?_
        refine a_goto (tgt := 18) dX6_ourTurn_122 (by decide) ?_
        exact ((h9.2.2 c11).2 c12)
set_option maxRecDepth 10000 in
theorem sg_X6_ifEmpty_0 {d : Nat} {sx : Option (List Int)} (a1 : Int) (a2 : Int) (a3 : Int) (mem : AMem) (Q : Option AV → AMem → Prop) (h : (a3 ≠ (0 : Int) → ((a1 ≠ (2 : Int) → ((0 ≤ (w32 ((w32 ((w32 (a1 + 1)) * 61)) + a2)) ∧ (w32 ((w32 ((w32 (a1 + 1)) * 61)) + a2)) < 183) ∧ (Q (some (vi (mem 701 0 (w32 ((w32 ((w32 (a1 + 1)) * 61)) + a2))))) mem))) ∧ (a1 = (2 : Int) → ((0 ≤ (w32 (a2 - 1)) ∧ (w32 (a2 - 1)) < 183) ∧ (Q (some (vi (mem 701 0 (w32 (a2 - 1))))) mem))))) ∧ (a3 = (0 : Int) → ((0 ≤ (w32 ((w32 (a1 * 61)) + a2)) ∧ (w32 ((w32 (a1 * 61)) + a2)) < 183) ∧ (Q (some (vi (mem 701 0 (w32 ((w32 (a1 * 61)) + a2))))) mem)))) : Y cX6_ifEmpty 4 RX6 (d + 1) sx 0 [some (vr 6 0), some (vi a1), some (vi a2), some (vi a3)] [] mem Q := by
  refine a_iload_n dX6_ifEmpty_0 rfl rfl ?_
  refine a_if_ne (tgt := 16) dX6_ifEmpty_1 (by decide) ⟨fun c1 => ?_, fun c1 => ?_⟩
  · refine a_iload_n dX6_ifEmpty_16 rfl rfl ?_
    refine a_iconst (k := 2) dX6_ifEmpty_17 (n_lit (by decide)) ?_
    refine a_icmp_ne (tgt := 32) dX6_ifEmpty_18 (by decide) ⟨fun c2 => ?_, fun c2 => ?_⟩
    · refine a_aload_n dX6_ifEmpty_32 rfl rfl ?_
      refine gf_X6_15 dX6_ifEmpty_33 ?_
      refine a_iload_n dX6_ifEmpty_36 rfl rfl ?_
      refine a_iconst (k := 1) dX6_ifEmpty_37 (n_lit (by decide)) ?_
      refine a_iadd dX6_ifEmpty_38 ?_
      refine a_bipush (k := 61) dX6_ifEmpty_39 (by decide) (n_lit (by decide)) ?_
      refine a_imul dX6_ifEmpty_41 ?_
      refine a_iload_n dX6_ifEmpty_42 rfl rfl ?_
      refine a_iadd dX6_ifEmpty_43 ?_
      refine a_iald rfl rfl (by decide) rfl dX6_ifEmpty_44 ⟨((h.1 c1).1 c2).1, ?_⟩
      exact a_iret dX6_ifEmpty_45 ((h.1 c1).1 c2).2
    · refine a_aload_n dX6_ifEmpty_21 rfl rfl ?_
      refine gf_X6_15 dX6_ifEmpty_22 ?_
      refine a_iload_n dX6_ifEmpty_25 rfl rfl ?_
      refine a_iconst (k := 1) dX6_ifEmpty_26 (n_lit (by decide)) ?_
      refine a_isub dX6_ifEmpty_27 ?_
      refine a_iald rfl rfl (by decide) rfl dX6_ifEmpty_28 ⟨((h.1 c1).2 c2).1, ?_⟩
      refine a_goto (tgt := 45) dX6_ifEmpty_29 (by decide) ?_
      exact a_iret dX6_ifEmpty_45 ((h.1 c1).2 c2).2
  · refine a_aload_n dX6_ifEmpty_4 rfl rfl ?_
    refine gf_X6_15 dX6_ifEmpty_5 ?_
    refine a_iload_n dX6_ifEmpty_8 rfl rfl ?_
    refine a_bipush (k := 61) dX6_ifEmpty_9 (by decide) (n_lit (by decide)) ?_
    refine a_imul dX6_ifEmpty_11 ?_
    refine a_iload_n dX6_ifEmpty_12 rfl rfl ?_
    refine a_iadd dX6_ifEmpty_13 ?_
    refine a_iald rfl rfl (by decide) rfl dX6_ifEmpty_14 ⟨(h.2 c1).1, ?_⟩
    exact a_iret dX6_ifEmpty_15 (h.2 c1).2
set_option maxRecDepth 10000 in
theorem sg_X6_ofRaid_0 {d : Nat} {sx : Option (List Int)} (a1 : Int) (a2 : Int) (a3 : Int) (a4 : Int) (mem : AMem) (Q : Option AV → AMem → Prop) (h : (0 ≤ (w32 (a3 + 1)) ∧ (w32 (a3 + 1)) < 183) ∧ ((0 ≤ (w32 (a3 - 1)) ∧ (w32 (a3 - 1)) < 183) ∧ (Q (some (vi (w32 (Int.tdiv (w32 ((w32 ((w32 (a1 * (mem 701 0 (w32 (a3 + 1))))) + (w32 ((min a2 (w32 (12 - a1))) * (mem 701 0 (w32 (a3 - 1))))))) + (w32 ((w32 ((w32 (12 - a1)) - (min a2 (w32 (12 - a1))))) * a4)))) 12)))) mem))) : Y cX6_ofRaid 7 RX6 (d + 1) sx 0 [some (vr 6 0), some (vi a1), some (vi a2), some (vi a3), some (vi a4), none, none] [] mem Q := by
  refine a_iload_n dX6_ofRaid_0 rfl rfl ?_
  refine a_bipush (k := 12) dX6_ofRaid_1 (by decide) (n_lit (by decide)) ?_
  refine a_iload_n dX6_ofRaid_3 rfl rfl ?_
  refine a_isub dX6_ofRaid_4 ?_
  refine a_min ml_X6_54 ms_Math_min mn_Math mc_Math_min (by omega) (Nat.le_of_ble_eq_true rfl) dX6_ofRaid_5 ?_
  refine a_istore dX6_ofRaid_8 (by decide) rfl ?_
  refine a_bipush (k := 12) dX6_ofRaid_10 (by decide) (n_lit (by decide)) ?_
  refine a_iload_n dX6_ofRaid_12 rfl rfl ?_
  refine a_isub dX6_ofRaid_13 ?_
  refine a_iload dX6_ofRaid_14 rfl ?_
  refine a_isub dX6_ofRaid_16 ?_
  refine a_istore dX6_ofRaid_17 (by decide) rfl ?_
  refine a_iload_n dX6_ofRaid_19 rfl rfl ?_
  refine a_aload_n dX6_ofRaid_20 rfl rfl ?_
  refine gf_X6_15 dX6_ofRaid_21 ?_
  refine a_iload_n dX6_ofRaid_24 rfl rfl ?_
  refine a_iconst (k := 1) dX6_ofRaid_25 (n_lit (by decide)) ?_
  refine a_iadd dX6_ofRaid_26 ?_
  refine a_iald rfl rfl (by decide) rfl dX6_ofRaid_27 ⟨h.1, ?_⟩
  refine a_imul dX6_ofRaid_28 ?_
  refine a_iload dX6_ofRaid_29 rfl ?_
  refine a_aload_n dX6_ofRaid_31 rfl rfl ?_
  refine gf_X6_15 dX6_ofRaid_32 ?_
  refine a_iload_n dX6_ofRaid_35 rfl rfl ?_
  refine a_iconst (k := 1) dX6_ofRaid_36 (n_lit (by decide)) ?_
  refine a_isub dX6_ofRaid_37 ?_
  refine a_iald rfl rfl (by decide) rfl dX6_ofRaid_38 ⟨h.2.1, ?_⟩
  refine a_imul dX6_ofRaid_39 ?_
  refine a_iadd dX6_ofRaid_40 ?_
  refine a_iload dX6_ofRaid_41 rfl ?_
  refine a_iload dX6_ofRaid_43 rfl ?_
  refine a_imul dX6_ofRaid_45 ?_
  refine a_iadd dX6_ofRaid_46 ?_
  refine a_bipush (k := 12) dX6_ofRaid_47 (by decide) (n_lit (by decide)) ?_
  refine a_idiv dX6_ofRaid_49 (by decide) ?_
  exact a_iret dX6_ofRaid_50 h.2.2
set_option maxRecDepth 10000 in
theorem sg_X8_findBest_0 {d : Nat} {sx : Option (List Int)} (a2 : Int) (mem : AMem) (Q : Option AV → AMem → Prop) (h : MtX yX8_isFound cX8_isFound 3 (some .boolean) d [vr 8 0, vr 2 0, vi (-1)] mem (fun r m1 => ∃ x3 : Int, r = some (vi x3) ∧ ((x3 = (0 : Int) → (MtX yX8_prepare cX8_prepare 4 none d [vr 8 0, vr 2 0, vi a2, vi (-1)] m1 (fun r m5 => r = none ∧ (MtX yX8_explore cX8_explore 4 none d [vr 8 0, vr 2 0, vi 0] m5 (fun r m7 => r = none ∧ (Q none m7)))))) ∧ (¬ x3 = (0 : Int) → (((m1 8 0 5) = a2 → (Q none m1)) ∧ (¬ (m1 8 0 5) = a2 → (MtX yX8_prepare cX8_prepare 4 none d [vr 8 0, vr 2 0, vi a2, vi (-1)] m1 (fun r m10 => r = none ∧ (MtX yX8_explore cX8_explore 4 none d [vr 8 0, vr 2 0, vi 0] m10 (fun r m12 => r = none ∧ (Q none m12))))))))))) : Y cX8_findBest 3 RX8 (d + 1) sx 0 [some (vr 8 0), some (vr 2 0), some (vi a2)] [] mem Q := by
  refine a_aload_n dX8_findBest_0 rfl rfl ?_
  refine a_aload_n dX8_findBest_1 rfl rfl ?_
  refine a_iconst (k := (-1)) dX8_findBest_2 (n_lit (by decide)) ?_
  refine iv_X8_25 dX8_findBest_3 (Nat.le_of_ble_eq_true rfl) (MtX_mono h (fun r m1 hq => ?_))
  obtain ⟨x3, rfl, h2⟩ := hq
  refine ⟨x3, rfl, ?_⟩
  refine a_if_eq (tgt := 17) dX8_findBest_6 (by decide) ⟨fun c4 => ?_, fun c4 => ?_⟩
  · refine a_aload_n dX8_findBest_17 rfl rfl ?_
    refine a_aload_n dX8_findBest_18 rfl rfl ?_
    refine a_iload_n dX8_findBest_19 rfl rfl ?_
    refine a_iconst (k := (-1)) dX8_findBest_20 (n_lit (by decide)) ?_
    refine iv_X8_33 dX8_findBest_21 (Nat.le_of_ble_eq_true rfl) (MtX_mono (h2.1 c4) (fun r m5 hq => ?_))
    obtain ⟨rfl, h6⟩ := hq
    refine ⟨rfl, ?_⟩
    refine a_aload_n dX8_findBest_24 rfl rfl ?_
    refine a_aload_n dX8_findBest_25 rfl rfl ?_
    refine a_iconst (k := 0) dX8_findBest_26 (n_lit (by decide)) ?_
    refine iv_X8_37 dX8_findBest_27 (Nat.le_of_ble_eq_true rfl) (MtX_mono h6 (fun r m7 hq => ?_))
    obtain ⟨rfl, h8⟩ := hq
    refine ⟨rfl, ?_⟩
    exact a_vret dX8_findBest_30 h8
  · refine a_aload_n dX8_findBest_9 rfl rfl ?_
    refine gf_X8_29 (x := m1 8 0 5) rfl dX8_findBest_10 ?_
    refine a_iload_n dX8_findBest_13 rfl rfl ?_
    refine a_icmp_eq (tgt := 30) dX8_findBest_14 (by decide) ⟨fun c9 => ?_, fun c9 => ?_⟩
    · exact a_vret dX8_findBest_30 ((h2.2 c4).1 c9)
    · refine a_aload_n dX8_findBest_17 rfl rfl ?_
      refine a_aload_n dX8_findBest_18 rfl rfl ?_
      refine a_iload_n dX8_findBest_19 rfl rfl ?_
      refine a_iconst (k := (-1)) dX8_findBest_20 (n_lit (by decide)) ?_
      refine iv_X8_33 dX8_findBest_21 (Nat.le_of_ble_eq_true rfl) (MtX_mono ((h2.2 c4).2 c9) (fun r m10 hq => ?_))
      obtain ⟨rfl, h11⟩ := hq
      refine ⟨rfl, ?_⟩
      refine a_aload_n dX8_findBest_24 rfl rfl ?_
      refine a_aload_n dX8_findBest_25 rfl rfl ?_
      refine a_iconst (k := 0) dX8_findBest_26 (n_lit (by decide)) ?_
      refine iv_X8_37 dX8_findBest_27 (Nat.le_of_ble_eq_true rfl) (MtX_mono h11 (fun r m12 hq => ?_))
      obtain ⟨rfl, h13⟩ := hq
      refine ⟨rfl, ?_⟩
      exact a_vret dX8_findBest_30 h13
set_option maxRecDepth 10000 in
theorem sg_X8_findTouch_0 {d : Nat} {sx : Option (List Int)} (a2 : Int) (mem : AMem) (Q : Option AV → AMem → Prop) (h : MtX yX8_isFound cX8_isFound 3 (some .boolean) d [vr 8 0, vr 2 0, vi a2] mem (fun r m1 => ∃ x3 : Int, r = some (vi x3) ∧ ((x3 ≠ (0 : Int) → (((m1 8 0 3) ≠ (1 : Int) → (Q (some (vi 0)) m1)) ∧ ((m1 8 0 3) = (1 : Int) → (Q (some (vi (m1 8 0 5))) m1)))) ∧ (x3 = (0 : Int) → (Y cX8_findTouch 4 RX8 (d + 1) sx 16 [some (vr 8 0), some (vr 2 0), some (vi a2), some (vi 1)] [] (upM m1 8 0 3 0) Q))))) : Y cX8_findTouch 4 RX8 (d + 1) sx 0 [some (vr 8 0), some (vr 2 0), some (vi a2), none] [] mem Q := by
  refine a_aload_n dX8_findTouch_0 rfl rfl ?_
  refine a_aload_n dX8_findTouch_1 rfl rfl ?_
  refine a_iload_n dX8_findTouch_2 rfl rfl ?_
  refine iv_X8_25 dX8_findTouch_3 (Nat.le_of_ble_eq_true rfl) (MtX_mono h (fun r m1 hq => ?_))
  obtain ⟨x3, rfl, h2⟩ := hq
  refine ⟨x3, rfl, ?_⟩
  refine a_if_ne (tgt := 47) dX8_findTouch_6 (by decide) ⟨fun c4 => ?_, fun c4 => ?_⟩
  · refine a_aload_n dX8_findTouch_47 rfl rfl ?_
    refine gf_X8_41 (x := m1 8 0 3) rfl dX8_findTouch_48 ?_
    refine a_iconst (k := 1) dX8_findTouch_51 (n_lit (by decide)) ?_
    refine a_icmp_ne (tgt := 62) dX8_findTouch_52 (by decide) ⟨fun c5 => ?_, fun c5 => ?_⟩
    · refine a_iconst (k := 0) dX8_findTouch_62 (n_lit (by decide)) ?_
      exact a_iret dX8_findTouch_63 ((h2.1 c4).1 c5)
    · refine a_aload_n dX8_findTouch_55 rfl rfl ?_
      refine gf_X8_29 (x := m1 8 0 5) rfl dX8_findTouch_56 ?_
      refine a_goto (tgt := 63) dX8_findTouch_59 (by decide) ?_
      exact a_iret dX8_findTouch_63 ((h2.1 c4).2 c5)
  · refine a_aload_n dX8_findTouch_9 rfl rfl ?_
    refine a_iconst (k := 0) dX8_findTouch_10 (n_lit (by decide)) ?_
    refine pf_X8_41 dX8_findTouch_11 ?_
    refine a_iconst (k := 1) dX8_findTouch_14 (n_lit (by decide)) ?_
    refine a_istore_n dX8_findTouch_15 rfl (by decide) rfl ?_
    exact (h2.2 c4)
set_option maxRecDepth 10000 in
theorem sg_X8_findTouch_16 {d : Nat} {sx : Option (List Int)} (a2 : Int) (a3 : Int) (mem : AMem) (Q : Option AV → AMem → Prop) (h : ((5 : Int) < a3 → (((mem 8 0 3) ≠ (1 : Int) → (Q (some (vi 0)) mem)) ∧ ((mem 8 0 3) = (1 : Int) → (Q (some (vi (mem 8 0 5))) mem)))) ∧ (¬ (5 : Int) < a3 → (((mem 8 0 3) ≠ (0 : Int) → (((mem 8 0 3) ≠ (1 : Int) → (Q (some (vi 0)) mem)) ∧ ((mem 8 0 3) = (1 : Int) → (Q (some (vi (mem 8 0 5))) mem)))) ∧ ((mem 8 0 3) = (0 : Int) → (MtX yX8_prepare cX8_prepare 4 none d [vr 8 0, vr 2 0, vi a3, vi a2] mem (fun r m5 => r = none ∧ (MtX yX8_explore cX8_explore 4 none d [vr 8 0, vr 2 0, vi 0] m5 (fun r m7 => r = none ∧ (Y cX8_findTouch 4 RX8 (d + 1) sx 16 [some (vr 8 0), some (vr 2 0), some (vi a2), some (vi (w32 (a3 + 1)))] [] m7 Q))))))))) : Y cX8_findTouch 4 RX8 (d + 1) sx 16 [some (vr 8 0), some (vr 2 0), some (vi a2), some (vi a3)] [] mem Q := by
  refine a_iload_n dX8_findTouch_16 rfl rfl ?_
  refine a_iconst (k := 5) dX8_findTouch_17 (n_lit (by decide)) ?_
  refine a_icmp_gt (tgt := 47) dX8_findTouch_18 (by decide) ⟨fun c1 => ?_, fun c1 => ?_⟩
  · refine a_aload_n dX8_findTouch_47 rfl rfl ?_
    refine gf_X8_41 (x := mem 8 0 3) rfl dX8_findTouch_48 ?_
    refine a_iconst (k := 1) dX8_findTouch_51 (n_lit (by decide)) ?_
    refine a_icmp_ne (tgt := 62) dX8_findTouch_52 (by decide) ⟨fun c2 => ?_, fun c2 => ?_⟩
    · refine a_iconst (k := 0) dX8_findTouch_62 (n_lit (by decide)) ?_
      exact a_iret dX8_findTouch_63 ((h.1 c1).1 c2)
    · refine a_aload_n dX8_findTouch_55 rfl rfl ?_
      refine gf_X8_29 (x := mem 8 0 5) rfl dX8_findTouch_56 ?_
      refine a_goto (tgt := 63) dX8_findTouch_59 (by decide) ?_
      exact a_iret dX8_findTouch_63 ((h.1 c1).2 c2)
  · refine a_aload_n dX8_findTouch_21 rfl rfl ?_
    refine gf_X8_41 (x := mem 8 0 3) rfl dX8_findTouch_22 ?_
    refine a_if_ne (tgt := 47) dX8_findTouch_25 (by decide) ⟨fun c3 => ?_, fun c3 => ?_⟩
    · refine a_aload_n dX8_findTouch_47 rfl rfl ?_
      refine gf_X8_41 (x := mem 8 0 3) rfl dX8_findTouch_48 ?_
      refine a_iconst (k := 1) dX8_findTouch_51 (n_lit (by decide)) ?_
      refine a_icmp_ne (tgt := 62) dX8_findTouch_52 (by decide) ⟨fun c4 => ?_, fun c4 => ?_⟩
      · refine a_iconst (k := 0) dX8_findTouch_62 (n_lit (by decide)) ?_
        exact a_iret dX8_findTouch_63 (((h.2 c1).1 c3).1 c4)
      · refine a_aload_n dX8_findTouch_55 rfl rfl ?_
        refine gf_X8_29 (x := mem 8 0 5) rfl dX8_findTouch_56 ?_
        refine a_goto (tgt := 63) dX8_findTouch_59 (by decide) ?_
        exact a_iret dX8_findTouch_63 (((h.2 c1).1 c3).2 c4)
    · refine a_aload_n dX8_findTouch_28 rfl rfl ?_
      refine a_aload_n dX8_findTouch_29 rfl rfl ?_
      refine a_iload_n dX8_findTouch_30 rfl rfl ?_
      refine a_iload_n dX8_findTouch_31 rfl rfl ?_
      refine iv_X8_33 dX8_findTouch_32 (Nat.le_of_ble_eq_true rfl) (MtX_mono ((h.2 c1).2 c3) (fun r m5 hq => ?_))
      obtain ⟨rfl, h6⟩ := hq
      refine ⟨rfl, ?_⟩
      refine a_aload_n dX8_findTouch_35 rfl rfl ?_
      refine a_aload_n dX8_findTouch_36 rfl rfl ?_
      refine a_iconst (k := 0) dX8_findTouch_37 (n_lit (by decide)) ?_
      refine iv_X8_37 dX8_findTouch_38 (Nat.le_of_ble_eq_true rfl) (MtX_mono h6 (fun r m7 hq => ?_))
      obtain ⟨rfl, h8⟩ := hq
      refine ⟨rfl, ?_⟩
      refine a_iinc dX8_findTouch_41 rfl (by decide) rfl ?_
      refine a_goto (tgt := 16) dX8_findTouch_44 (by decide) ?_
      exact h8
set_option maxRecDepth 10000 in
theorem sg_X8_isFound_0 {d : Nat} {sx : Option (List Int)} (a2 : Int) (mem : AMem) (Q : Option AV → AMem → Prop) (h : ((mem 8 0 7) = (0 : Int) → (Q (some (vi 0)) mem)) ∧ (¬ (mem 8 0 7) = (0 : Int) → (((mem 8 0 8) ≠ (mem 2 0 6) → (Q (some (vi 0)) mem)) ∧ ((mem 8 0 8) = (mem 2 0 6) → (((mem 8 0 6) ≠ a2 → (Q (some (vi 0)) mem)) ∧ ((mem 8 0 6) = a2 → (Q (some (vi 1)) mem))))))) : Y cX8_isFound 3 RX8 (d + 1) sx 0 [some (vr 8 0), some (vr 2 0), some (vi a2)] [] mem Q := by
  refine a_aload_n dX8_isFound_0 rfl rfl ?_
  refine gf_X8_44 (x := mem 8 0 7) rfl dX8_isFound_1 ?_
  refine a_if_eq (tgt := 30) dX8_isFound_4 (by decide) ⟨fun c1 => ?_, fun c1 => ?_⟩
  · refine a_iconst (k := 0) dX8_isFound_30 (n_lit (by decide)) ?_
    exact a_iret dX8_isFound_31 (h.1 c1)
  · refine a_aload_n dX8_isFound_7 rfl rfl ?_
    refine gf_X8_48 (x := mem 8 0 8) rfl dX8_isFound_8 ?_
    refine a_aload_n dX8_isFound_11 rfl rfl ?_
    refine gf_X8_51 (x := mem 2 0 6) rfl dX8_isFound_12 ?_
    refine a_icmp_ne (tgt := 30) dX8_isFound_15 (by decide) ⟨fun c2 => ?_, fun c2 => ?_⟩
    · refine a_iconst (k := 0) dX8_isFound_30 (n_lit (by decide)) ?_
      exact a_iret dX8_isFound_31 ((h.2 c1).1 c2)
    · refine a_aload_n dX8_isFound_18 rfl rfl ?_
      refine gf_X8_54 (x := mem 8 0 6) rfl dX8_isFound_19 ?_
      refine a_iload_n dX8_isFound_22 rfl rfl ?_
      refine a_icmp_ne (tgt := 30) dX8_isFound_23 (by decide) ⟨fun c3 => ?_, fun c3 => ?_⟩
      · refine a_iconst (k := 0) dX8_isFound_30 (n_lit (by decide)) ?_
        exact a_iret dX8_isFound_31 (((h.2 c1).2 c2).1 c3)
      · refine a_iconst (k := 1) dX8_isFound_26 (n_lit (by decide)) ?_
        refine a_goto (tgt := 31) dX8_isFound_27 (by decide) ?_
        exact a_iret dX8_isFound_31 (((h.2 c1).2 c2).2 c3)
set_option maxRecDepth 10000 in
theorem sg_X8_prepare_0 {d : Nat} {sx : Option (List Int)} (a2 : Int) (a3 : Int) (mem : AMem) (Q : Option AV → AMem → Prop) (h : (a3 ≠ (-1 : Int) → ((a3 ≠ (-1 : Int) → ((0 ≤ (0 : Int) ∧ (0 : Int) < 6) ∧ (MtX yX7_begin cX7_begin 2 none d [vr 7 (Int.toNat (0 + 1)), vr 2 0] (upM (upM (upM (upM (upM (upM mem 8 0 7 1) 8 0 8 (mem 2 0 6)) 8 0 6 a3) 8 0 5 a2) 8 0 3 0) 8 0 4 1) (fun r m3 => r = none ∧ (Q none m3))))) ∧ (a3 = (-1 : Int) → (MtX yJ6_bitCount_0f7a4 cJ6_bitCount_0f7a4 1 (some .int) d [vi (mem 2 0 4)] (upM (upM (upM (upM (upM mem 8 0 7 1) 8 0 8 (mem 2 0 6)) 8 0 6 a3) 8 0 5 a2) 8 0 3 0) (fun r m5 => ∃ x7 : Int, r = some (vi x7) ∧ ((0 ≤ (0 : Int) ∧ (0 : Int) < 6) ∧ (MtX yX7_begin cX7_begin 2 none d [vr 7 (Int.toNat (0 + 1)), vr 2 0] (upM m5 8 0 4 x7) (fun r m8 => r = none ∧ (Q none m8))))))))) ∧ (a3 = (-1 : Int) → ((a3 ≠ (-1 : Int) → ((0 ≤ (0 : Int) ∧ (0 : Int) < 6) ∧ (MtX yX7_begin cX7_begin 2 none d [vr 7 (Int.toNat (0 + 1)), vr 2 0] (upM (upM (upM (upM (upM (upM mem 8 0 7 1) 8 0 8 (mem 2 0 6)) 8 0 6 a3) 8 0 5 a2) 8 0 3 (-1000)) 8 0 4 1) (fun r m11 => r = none ∧ (Q none m11))))) ∧ (a3 = (-1 : Int) → (MtX yJ6_bitCount_0f7a4 cJ6_bitCount_0f7a4 1 (some .int) d [vi (mem 2 0 4)] (upM (upM (upM (upM (upM mem 8 0 7 1) 8 0 8 (mem 2 0 6)) 8 0 6 a3) 8 0 5 a2) 8 0 3 (-1000)) (fun r m13 => ∃ x15 : Int, r = some (vi x15) ∧ ((0 ≤ (0 : Int) ∧ (0 : Int) < 6) ∧ (MtX yX7_begin cX7_begin 2 none d [vr 7 (Int.toNat (0 + 1)), vr 2 0] (upM m13 8 0 4 x15) (fun r m16 => r = none ∧ (Q none m16)))))))))) : Y cX8_prepare 4 RX8 (d + 1) sx 0 [some (vr 8 0), some (vr 2 0), some (vi a2), some (vi a3)] [] mem Q := by
  refine a_aload_n dX8_prepare_0 rfl rfl ?_
  refine a_iconst (k := 1) dX8_prepare_1 (n_lit (by decide)) ?_
  refine pf_X8_44 (Or.inr rfl) dX8_prepare_2 ?_
  refine a_aload_n dX8_prepare_5 rfl rfl ?_
  refine a_aload_n dX8_prepare_6 rfl rfl ?_
  refine gf_X8_51 (x := mem 2 0 6) rfl dX8_prepare_7 ?_
  refine pf_X8_48 dX8_prepare_10 ?_
  refine a_aload_n dX8_prepare_13 rfl rfl ?_
  refine a_iload_n dX8_prepare_14 rfl rfl ?_
  refine pf_X8_54 dX8_prepare_15 ?_
  refine a_aload_n dX8_prepare_18 rfl rfl ?_
  refine a_iload_n dX8_prepare_19 rfl rfl ?_
  refine pf_X8_29 dX8_prepare_20 ?_
  refine a_aload_n dX8_prepare_23 rfl rfl ?_
  refine a_iload_n dX8_prepare_24 rfl rfl ?_
  refine a_iconst (k := (-1)) dX8_prepare_25 (n_lit (by decide)) ?_
  refine a_icmp_ne (tgt := 35) dX8_prepare_26 (by decide) ⟨fun c1 => ?_, fun c1 => ?_⟩
  · refine a_iconst (k := 0) dX8_prepare_35 (n_lit (by decide)) ?_
    refine pf_X8_41 dX8_prepare_36 ?_
    refine a_aload_n dX8_prepare_39 rfl rfl ?_
    refine a_iload_n dX8_prepare_40 rfl rfl ?_
    refine a_iconst (k := (-1)) dX8_prepare_41 (n_lit (by decide)) ?_
    refine a_icmp_ne (tgt := 55) dX8_prepare_42 (by decide) ⟨fun c2 => ?_, fun c2 => ?_⟩
    · refine a_iconst (k := 1) dX8_prepare_55 (n_lit (by decide)) ?_
      refine pf_X8_66 dX8_prepare_56 ?_
      refine a_aload_n dX8_prepare_59 rfl rfl ?_
      refine gf_X8_11 dX8_prepare_60 ?_
      refine a_iconst (k := 0) dX8_prepare_63 (n_lit (by decide)) ?_
      refine a_levels dX8_prepare_64 ⟨((h.1 c1).1 c2).1, ?_⟩
      refine a_aload_n dX8_prepare_65 rfl rfl ?_
      refine iv_X8_69 dX8_prepare_66 (Nat.le_of_ble_eq_true rfl) (MtX_mono ((h.1 c1).1 c2).2 (fun r m3 hq => ?_))
      obtain ⟨rfl, h4⟩ := hq
      refine ⟨rfl, ?_⟩
      exact a_vret dX8_prepare_69 h4
    · refine a_aload_n dX8_prepare_45 rfl rfl ?_
      refine gf_X8_57 (x := mem 2 0 4) rfl dX8_prepare_46 ?_
      refine iv_X8_60 dX8_prepare_49 (Nat.le_of_ble_eq_true rfl) (MtX_mono ((h.1 c1).2 c2) (fun r m5 hq => ?_))
      obtain ⟨x7, rfl, h6⟩ := hq
      refine ⟨x7, rfl, ?_⟩
      refine a_goto (tgt := 56) dX8_prepare_52 (by decide) ?_
      refine pf_X8_66 dX8_prepare_56 ?_
      refine a_aload_n dX8_prepare_59 rfl rfl ?_
      refine gf_X8_11 dX8_prepare_60 ?_
      refine a_iconst (k := 0) dX8_prepare_63 (n_lit (by decide)) ?_
      refine a_levels dX8_prepare_64 ⟨h6.1, ?_⟩
      refine a_aload_n dX8_prepare_65 rfl rfl ?_
      refine iv_X8_69 dX8_prepare_66 (Nat.le_of_ble_eq_true rfl) (MtX_mono h6.2 (fun r m8 hq => ?_))
      obtain ⟨rfl, h9⟩ := hq
      refine ⟨rfl, ?_⟩
      exact a_vret dX8_prepare_69 h9
  · refine a_sipush (k := (-1000)) dX8_prepare_29 (by decide) (n_lit (by decide)) ?_
    refine a_goto (tgt := 36) dX8_prepare_32 (by decide) ?_
    refine pf_X8_41 dX8_prepare_36 ?_
    refine a_aload_n dX8_prepare_39 rfl rfl ?_
    refine a_iload_n dX8_prepare_40 rfl rfl ?_
    refine a_iconst (k := (-1)) dX8_prepare_41 (n_lit (by decide)) ?_
    refine a_icmp_ne (tgt := 55) dX8_prepare_42 (by decide) ⟨fun c10 => ?_, fun c10 => ?_⟩
    · refine a_iconst (k := 1) dX8_prepare_55 (n_lit (by decide)) ?_
      refine pf_X8_66 dX8_prepare_56 ?_
      refine a_aload_n dX8_prepare_59 rfl rfl ?_
      refine gf_X8_11 dX8_prepare_60 ?_
      refine a_iconst (k := 0) dX8_prepare_63 (n_lit (by decide)) ?_
      refine a_levels dX8_prepare_64 ⟨((h.2 c1).1 c10).1, ?_⟩
      refine a_aload_n dX8_prepare_65 rfl rfl ?_
      refine iv_X8_69 dX8_prepare_66 (Nat.le_of_ble_eq_true rfl) (MtX_mono ((h.2 c1).1 c10).2 (fun r m11 hq => ?_))
      obtain ⟨rfl, h12⟩ := hq
      refine ⟨rfl, ?_⟩
      exact a_vret dX8_prepare_69 h12
    · refine a_aload_n dX8_prepare_45 rfl rfl ?_
      refine gf_X8_57 (x := mem 2 0 4) rfl dX8_prepare_46 ?_
      refine iv_X8_60 dX8_prepare_49 (Nat.le_of_ble_eq_true rfl) (MtX_mono ((h.2 c1).2 c10) (fun r m13 hq => ?_))
      obtain ⟨x15, rfl, h14⟩ := hq
      refine ⟨x15, rfl, ?_⟩
      refine a_goto (tgt := 56) dX8_prepare_52 (by decide) ?_
      refine pf_X8_66 dX8_prepare_56 ?_
      refine a_aload_n dX8_prepare_59 rfl rfl ?_
      refine gf_X8_11 dX8_prepare_60 ?_
      refine a_iconst (k := 0) dX8_prepare_63 (n_lit (by decide)) ?_
      refine a_levels dX8_prepare_64 ⟨h14.1, ?_⟩
      refine a_aload_n dX8_prepare_65 rfl rfl ?_
      refine iv_X8_69 dX8_prepare_66 (Nat.le_of_ble_eq_true rfl) (MtX_mono h14.2 (fun r m16 hq => ?_))
      obtain ⟨rfl, h17⟩ := hq
      refine ⟨rfl, ?_⟩
      exact a_vret dX8_prepare_69 h17
set_option maxRecDepth 10000 in
theorem sg_X8_explore_0 {d : Nat} {sx : Option (List Int)} (a2 : Int) (mem : AMem) (Q : Option AV → AMem → Prop) (h : ((mem 8 0 5) ≤ a2 → (Q none mem)) ∧ (¬ (mem 8 0 5) ≤ a2 → ((a2 < (5 : Int) → (Y cX8_explore 4 RX8 (d + 1) sx 16 [some (vr 8 0), some (vr 2 0), some (vi a2), some (vi 0)] [] mem Q)) ∧ (¬ a2 < (5 : Int) → (Q none mem))))) : Y cX8_explore 4 RX8 (d + 1) sx 0 [some (vr 8 0), some (vr 2 0), some (vi a2), none] [] mem Q := by
  refine a_iload_n dX8_explore_0 rfl rfl ?_
  refine a_aload_n dX8_explore_1 rfl rfl ?_
  refine gf_X8_29 (x := mem 8 0 5) rfl dX8_explore_2 ?_
  refine a_icmp_ge (tgt := 13) dX8_explore_5 (by decide) ⟨fun c1 => ?_, fun c1 => ?_⟩
  · exact a_vret dX8_explore_13 (h.1 c1)
  · refine a_iload_n dX8_explore_8 rfl rfl ?_
    refine a_iconst (k := 5) dX8_explore_9 (n_lit (by decide)) ?_
    refine a_icmp_lt (tgt := 14) dX8_explore_10 (by decide) ⟨fun c2 => ?_, fun c2 => ?_⟩
    · refine a_iconst (k := 0) dX8_explore_14 (n_lit (by decide)) ?_
      refine a_istore_n dX8_explore_15 rfl (by decide) rfl ?_
      exact ((h.2 c1).1 c2)
    · exact a_vret dX8_explore_13 ((h.2 c1).2 c2)
set_option maxRecDepth 10000 in
theorem sg_X8_explore_16 {d : Nat} {sx : Option (List Int)} (a2 : Int) (a3 : Int) (mem : AMem) (Q : Option AV → AMem → Prop) (h : ((4 : Int) < a3 → (Q none mem)) ∧ (¬ (4 : Int) < a3 → (((mem 8 0 4) ≤ (mem 8 0 3) → (Q none mem)) ∧ (¬ (mem 8 0 4) ≤ (mem 8 0 3) → ((0 ≤ a2 ∧ a2 < 5) ∧ (MtX yX8_goOn cX8_goOn 5 none d [vr 8 0, vr 2 0, vi a2] (upM mem 901 0 a2 a3) (fun r m3 => r = none ∧ (Y cX8_explore 4 RX8 (d + 1) sx 16 [some (vr 8 0), some (vr 2 0), some (vi a2), some (vi (w32 (a3 + 1)))] [] m3 Q)))))))) : Y cX8_explore 4 RX8 (d + 1) sx 16 [some (vr 8 0), some (vr 2 0), some (vi a2), some (vi a3)] [] mem Q := by
  refine a_iload_n dX8_explore_16 rfl rfl ?_
  refine a_iconst (k := 4) dX8_explore_17 (n_lit (by decide)) ?_
  refine a_icmp_gt (tgt := 51) dX8_explore_18 (by decide) ⟨fun c1 => ?_, fun c1 => ?_⟩
  · exact a_vret dX8_explore_51 (h.1 c1)
  · refine a_aload_n dX8_explore_21 rfl rfl ?_
    refine gf_X8_41 (x := mem 8 0 3) rfl dX8_explore_22 ?_
    refine a_aload_n dX8_explore_25 rfl rfl ?_
    refine gf_X8_66 (x := mem 8 0 4) rfl dX8_explore_26 ?_
    refine a_icmp_ge (tgt := 51) dX8_explore_29 (by decide) ⟨fun c2 => ?_, fun c2 => ?_⟩
    · exact a_vret dX8_explore_51 ((h.2 c1).1 c2)
    · refine a_aload_n dX8_explore_32 rfl rfl ?_
      refine gf_X8_17 dX8_explore_33 ?_
      refine a_iload_n dX8_explore_36 rfl rfl ?_
      refine a_iload_n dX8_explore_37 rfl rfl ?_
      refine a_iast rfl rfl (by decide) rfl dX8_explore_38 ⟨((h.2 c1).2 c2).1, ?_⟩
      refine a_aload_n dX8_explore_39 rfl rfl ?_
      refine a_aload_n dX8_explore_40 rfl rfl ?_
      refine a_iload_n dX8_explore_41 rfl rfl ?_
      refine iv_X8_73 dX8_explore_42 (Nat.le_of_ble_eq_true rfl) (MtX_mono ((h.2 c1).2 c2).2 (fun r m3 hq => ?_))
      obtain ⟨rfl, h4⟩ := hq
      refine ⟨rfl, ?_⟩
      refine a_iinc dX8_explore_45 rfl (by decide) rfl ?_
      refine a_goto (tgt := 16) dX8_explore_48 (by decide) ?_
      exact h4
set_option maxRecDepth 10000 in
theorem sg_X8_goOn_0 {d : Nat} {sx : Option (List Int)} (a2 : Int) (mem : AMem) (Q : Option AV → AMem → Prop) (h : (0 ≤ (w32 (a2 + 1)) ∧ (w32 (a2 + 1)) < 6) ∧ ((0 ≤ a2 ∧ a2 < 6) ∧ (MtX yX7_goOnFrom cX7_goOnFrom 2 none d [vr 7 (Int.toNat ((w32 (a2 + 1)) + 1)), vr 7 (Int.toNat (a2 + 1))] mem (fun r m1 => r = none ∧ ((0 ≤ a2 ∧ a2 < 5) ∧ (MtX yX7_second cX7_second 6 none d [vr 7 (Int.toNat ((w32 (a2 + 1)) + 1)), vr 2 0, vi (m1 901 0 a2)] m1 (fun r m3 => r = none ∧ (((m3 7 (Int.toNat ((w32 (a2 + 1)) + 1)) 13) ≠ (0 : Int) → (MtX yX7_giveUpIfTooLate cX7_giveUpIfTooLate 1 none d [vr 7 (Int.toNat ((w32 (a2 + 1)) + 1))] m3 (fun r m6 => r = none ∧ (Y cX8_goOn 5 RX8 (d + 1) sx 74 [some (vr 8 0), some (vr 2 0), some (vi a2), some (vr 7 (Int.toNat ((w32 (a2 + 1)) + 1))), some (vi 0)] [] m6 Q)))) ∧ ((m3 7 (Int.toNat ((w32 (a2 + 1)) + 1)) 13) = (0 : Int) → (((m3 7 (Int.toNat ((w32 (a2 + 1)) + 1)) 6) ≤ (m3 7 (Int.toNat ((w32 (a2 + 1)) + 1)) 8) → (MtX yX7_giveUpIfTooLate cX7_giveUpIfTooLate 1 none d [vr 7 (Int.toNat ((w32 (a2 + 1)) + 1))] m3 (fun r m9 => r = none ∧ (Y cX8_goOn 5 RX8 (d + 1) sx 74 [some (vr 8 0), some (vr 2 0), some (vi a2), some (vr 7 (Int.toNat ((w32 (a2 + 1)) + 1))), some (vi 0)] [] m9 Q)))) ∧ (¬ (m3 7 (Int.toNat ((w32 (a2 + 1)) + 1)) 6) ≤ (m3 7 (Int.toNat ((w32 (a2 + 1)) + 1)) 8) → (((m3 8 0 5) ≤ (w32 (a2 + 1)) → (MtX yX7_giveUpIfTooLate cX7_giveUpIfTooLate 1 none d [vr 7 (Int.toNat ((w32 (a2 + 1)) + 1))] m3 (fun r m12 => r = none ∧ (Y cX8_goOn 5 RX8 (d + 1) sx 74 [some (vr 8 0), some (vr 2 0), some (vi a2), some (vr 7 (Int.toNat ((w32 (a2 + 1)) + 1))), some (vi 0)] [] m12 Q)))) ∧ (¬ (m3 8 0 5) ≤ (w32 (a2 + 1)) → (MtX yX8_explore cX8_explore 4 none d [vr 8 0, vr 2 0, vi (w32 (a2 + 1))] m3 (fun r m14 => r = none ∧ (Q none m14)))))))))))))))) : Y cX8_goOn 5 RX8 (d + 1) sx 0 [some (vr 8 0), some (vr 2 0), some (vi a2), none, none] [] mem Q := by
  refine a_aload_n dX8_goOn_0 rfl rfl ?_
  refine gf_X8_11 dX8_goOn_1 ?_
  refine a_iload_n dX8_goOn_4 rfl rfl ?_
  refine a_iconst (k := 1) dX8_goOn_5 (n_lit (by decide)) ?_
  refine a_iadd dX8_goOn_6 ?_
  refine a_levels dX8_goOn_7 ⟨h.1, ?_⟩
  refine a_astore_n dX8_goOn_8 rfl (by decide) rfl ?_
  refine a_aload_n dX8_goOn_9 rfl rfl ?_
  refine a_aload_n dX8_goOn_10 rfl rfl ?_
  refine gf_X8_11 dX8_goOn_11 ?_
  refine a_iload_n dX8_goOn_14 rfl rfl ?_
  refine a_levels dX8_goOn_15 ⟨h.2.1, ?_⟩
  refine iv_X8_76 dX8_goOn_16 (Nat.le_of_ble_eq_true rfl) (MtX_mono h.2.2 (fun r m1 hq => ?_))
  obtain ⟨rfl, h2⟩ := hq
  refine ⟨rfl, ?_⟩
  refine a_aload_n dX8_goOn_19 rfl rfl ?_
  refine a_aload_n dX8_goOn_20 rfl rfl ?_
  refine a_aload_n dX8_goOn_21 rfl rfl ?_
  refine gf_X8_17 dX8_goOn_22 ?_
  refine a_iload_n dX8_goOn_25 rfl rfl ?_
  refine a_iald rfl rfl (by decide) rfl dX8_goOn_26 ⟨h2.1, ?_⟩
  refine iv_X8_80 dX8_goOn_27 (Nat.le_of_ble_eq_true rfl) (MtX_mono h2.2 (fun r m3 hq => ?_))
  obtain ⟨rfl, h4⟩ := hq
  refine ⟨rfl, ?_⟩
  refine a_aload_n dX8_goOn_30 rfl rfl ?_
  refine gf_X8_83 (x := m3 7 (Int.toNat ((w32 (a2 + 1)) + 1)) 13) rfl dX8_goOn_31 ?_
  refine a_if_ne (tgt := 67) dX8_goOn_34 (by decide) ⟨fun c5 => ?_, fun c5 => ?_⟩
  · refine a_aload_n dX8_goOn_67 rfl rfl ?_
    refine iv_X8_92 dX8_goOn_68 (Nat.le_of_ble_eq_true rfl) (MtX_mono (h4.1 c5) (fun r m6 hq => ?_))
    obtain ⟨rfl, h7⟩ := hq
    refine ⟨rfl, ?_⟩
    refine a_iconst (k := 0) dX8_goOn_71 (n_lit (by decide)) ?_
    refine a_istore dX8_goOn_72 (by decide) rfl ?_
    exact h7
  · refine a_aload_n dX8_goOn_37 rfl rfl ?_
    refine gf_X8_86 (x := m3 7 (Int.toNat ((w32 (a2 + 1)) + 1)) 8) rfl dX8_goOn_38 ?_
    refine a_aload_n dX8_goOn_41 rfl rfl ?_
    refine gf_X8_89 (x := m3 7 (Int.toNat ((w32 (a2 + 1)) + 1)) 6) rfl dX8_goOn_42 ?_
    refine a_icmp_ge (tgt := 67) dX8_goOn_45 (by decide) ⟨fun c8 => ?_, fun c8 => ?_⟩
    · refine a_aload_n dX8_goOn_67 rfl rfl ?_
      refine iv_X8_92 dX8_goOn_68 (Nat.le_of_ble_eq_true rfl) (MtX_mono ((h4.2 c5).1 c8) (fun r m9 hq => ?_))
      obtain ⟨rfl, h10⟩ := hq
      refine ⟨rfl, ?_⟩
      refine a_iconst (k := 0) dX8_goOn_71 (n_lit (by decide)) ?_
      refine a_istore dX8_goOn_72 (by decide) rfl ?_
      exact h10
    · refine a_iload_n dX8_goOn_48 rfl rfl ?_
      refine a_iconst (k := 1) dX8_goOn_49 (n_lit (by decide)) ?_
      refine a_iadd dX8_goOn_50 ?_
      refine a_aload_n dX8_goOn_51 rfl rfl ?_
      refine gf_X8_29 (x := m3 8 0 5) rfl dX8_goOn_52 ?_
      refine a_icmp_ge (tgt := 67) dX8_goOn_55 (by decide) ⟨fun c11 => ?_, fun c11 => ?_⟩
      · refine a_aload_n dX8_goOn_67 rfl rfl ?_
        refine iv_X8_92 dX8_goOn_68 (Nat.le_of_ble_eq_true rfl) (MtX_mono (((h4.2 c5).2 c8).1 c11) (fun r m12 hq => ?_))
        obtain ⟨rfl, h13⟩ := hq
        refine ⟨rfl, ?_⟩
        refine a_iconst (k := 0) dX8_goOn_71 (n_lit (by decide)) ?_
        refine a_istore dX8_goOn_72 (by decide) rfl ?_
        exact h13
      · refine a_aload_n dX8_goOn_58 rfl rfl ?_
        refine a_aload_n dX8_goOn_59 rfl rfl ?_
        refine a_iload_n dX8_goOn_60 rfl rfl ?_
        refine a_iconst (k := 1) dX8_goOn_61 (n_lit (by decide)) ?_
        refine a_iadd dX8_goOn_62 ?_
        refine iv_X8_37 dX8_goOn_63 (Nat.le_of_ble_eq_true rfl) (MtX_mono (((h4.2 c5).2 c8).2 c11) (fun r m14 hq => ?_))
        obtain ⟨rfl, h15⟩ := hq
        refine ⟨rfl, ?_⟩
        exact a_vret dX8_goOn_66 h15
set_option maxRecDepth 10000 in
theorem sg_X8_goOn_74 {d : Nat} {sx : Option (List Int)} (a2 : Int) (j3 : Nat) (a4 : Int) (mem : AMem) (Q : Option AV → AMem → Prop) (h : ((8 : Int) ≤ a4 → (MtX yX8_compare cX8_compare 6 none d [vr 8 0, vr 2 0, vr 7 j3, vi a2] mem (fun r m2 => r = none ∧ (Q none m2)))) ∧ (¬ (8 : Int) ≤ a4 → (((mem 7 j3 13) ≠ (0 : Int) → (MtX yX8_compare cX8_compare 6 none d [vr 8 0, vr 2 0, vr 7 j3, vi a2] mem (fun r m5 => r = none ∧ (Q none m5)))) ∧ ((mem 7 j3 13) = (0 : Int) → (MtX yX7_second cX7_second 6 none d [vr 7 j3, vr 2 0, vi 2] mem (fun r m7 => r = none ∧ (Y cX8_goOn 5 RX8 (d + 1) sx 74 [some (vr 8 0), some (vr 2 0), some (vi a2), some (vr 7 j3), some (vi (w32 (a4 + 1)))] [] m7 Q))))))) : Y cX8_goOn 5 RX8 (d + 1) sx 74 [some (vr 8 0), some (vr 2 0), some (vi a2), some (vr 7 j3), some (vi a4)] [] mem Q := by
  refine a_iload dX8_goOn_74 rfl ?_
  refine a_bipush (k := 8) dX8_goOn_76 (by decide) (n_lit (by decide)) ?_
  refine a_icmp_ge (tgt := 100) dX8_goOn_78 (by decide) ⟨fun c1 => ?_, fun c1 => ?_⟩
  · refine a_aload_n dX8_goOn_100 rfl rfl ?_
    refine a_aload_n dX8_goOn_101 rfl rfl ?_
    refine a_aload_n dX8_goOn_102 rfl rfl ?_
    refine a_iload_n dX8_goOn_103 rfl rfl ?_
    refine iv_X8_95 dX8_goOn_104 (Nat.le_of_ble_eq_true rfl) (MtX_mono (h.1 c1) (fun r m2 hq => ?_))
    obtain ⟨rfl, h3⟩ := hq
    refine ⟨rfl, ?_⟩
    exact a_vret dX8_goOn_107 h3
  · refine a_aload_n dX8_goOn_81 rfl rfl ?_
    refine gf_X8_83 (x := mem 7 j3 13) rfl dX8_goOn_82 ?_
    refine a_if_ne (tgt := 100) dX8_goOn_85 (by decide) ⟨fun c4 => ?_, fun c4 => ?_⟩
    · refine a_aload_n dX8_goOn_100 rfl rfl ?_
      refine a_aload_n dX8_goOn_101 rfl rfl ?_
      refine a_aload_n dX8_goOn_102 rfl rfl ?_
      refine a_iload_n dX8_goOn_103 rfl rfl ?_
      refine iv_X8_95 dX8_goOn_104 (Nat.le_of_ble_eq_true rfl) (MtX_mono ((h.2 c1).1 c4) (fun r m5 hq => ?_))
      obtain ⟨rfl, h6⟩ := hq
      refine ⟨rfl, ?_⟩
      exact a_vret dX8_goOn_107 h6
    · refine a_aload_n dX8_goOn_88 rfl rfl ?_
      refine a_aload_n dX8_goOn_89 rfl rfl ?_
      refine a_iconst (k := 2) dX8_goOn_90 (n_lit (by decide)) ?_
      refine iv_X8_80 dX8_goOn_91 (Nat.le_of_ble_eq_true rfl) (MtX_mono ((h.2 c1).2 c4) (fun r m7 hq => ?_))
      obtain ⟨rfl, h8⟩ := hq
      refine ⟨rfl, ?_⟩
      refine a_iinc dX8_goOn_94 rfl (by decide) rfl ?_
      refine a_goto (tgt := 74) dX8_goOn_97 (by decide) ?_
      exact h8
set_option maxRecDepth 10000 in
theorem sg_X8_compare_0 {d : Nat} {sx : Option (List Int)} (j2 : Nat) (a3 : Int) (mem : AMem) (Q : Option AV → AMem → Prop) (h : ((mem 8 0 6) ≠ (-1 : Int) → (((mem 7 j2 13) ≠ (1 : Int) → (((0 : Int) ≤ (mem 8 0 3) → (Q none mem)) ∧ (¬ (0 : Int) ≤ (mem 8 0 3) → (Y cX8_compare 6 RX8 (d + 1) sx 71 [some (vr 8 0), some (vr 2 0), some (vr 7 j2), some (vi a3), some (vi 0), some (vi 0)] [] (upM mem 8 0 3 0) Q)))) ∧ ((mem 7 j2 13) = (1 : Int) → (((an32 (shr32 (mem 7 j2 10) (mem 8 0 6)) 1) ≠ (1 : Int) → (((0 : Int) ≤ (mem 8 0 3) → (Q none mem)) ∧ (¬ (0 : Int) ≤ (mem 8 0 3) → (Y cX8_compare 6 RX8 (d + 1) sx 71 [some (vr 8 0), some (vr 2 0), some (vr 7 j2), some (vi a3), some (vi 0), some (vi 0)] [] (upM mem 8 0 3 0) Q)))) ∧ ((an32 (shr32 (mem 7 j2 10) (mem 8 0 6)) 1) = (1 : Int) → (((1 : Int) ≤ (mem 8 0 3) → (Q none mem)) ∧ (¬ (1 : Int) ≤ (mem 8 0 3) → (Y cX8_compare 6 RX8 (d + 1) sx 71 [some (vr 8 0), some (vr 2 0), some (vr 7 j2), some (vi a3), some (vi 1), some (vi 0)] [] (upM mem 8 0 3 1) Q)))))))) ∧ ((mem 8 0 6) = (-1 : Int) → (MtX yX7_points cX7_points 1 (some .int) d [vr 7 j2] mem (fun r m7 => ∃ x9 : Int, r = some (vi x9) ∧ (MtX yX7_pointsForThem cX7_pointsForThem 2 (some .int) d [vr 7 j2, vr 2 0] m7 (fun r m10 => ∃ x12 : Int, r = some (vi x12) ∧ (((w32 (x9 - x12)) ≤ (m10 8 0 3) → (Q none m10)) ∧ (¬ (w32 (x9 - x12)) ≤ (m10 8 0 3) → (Y cX8_compare 6 RX8 (d + 1) sx 71 [some (vr 8 0), some (vr 2 0), some (vr 7 j2), some (vi a3), some (vi (w32 (x9 - x12))), some (vi 0)] [] (upM m10 8 0 3 (w32 (x9 - x12))) Q))))))))) : Y cX8_compare 6 RX8 (d + 1) sx 0 [some (vr 8 0), some (vr 2 0), some (vr 7 j2), some (vi a3), none, none] [] mem Q := by
  refine a_aload_n dX8_compare_0 rfl rfl ?_
  refine gf_X8_54 (x := mem 8 0 6) rfl dX8_compare_1 ?_
  refine a_iconst (k := (-1)) dX8_compare_4 (n_lit (by decide)) ?_
  refine a_icmp_ne (tgt := 23) dX8_compare_5 (by decide) ⟨fun c1 => ?_, fun c1 => ?_⟩
  · refine a_aload_n dX8_compare_23 rfl rfl ?_
    refine gf_X8_83 (x := mem 7 j2 13) rfl dX8_compare_24 ?_
    refine a_iconst (k := 1) dX8_compare_27 (n_lit (by decide)) ?_
    refine a_icmp_ne (tgt := 50) dX8_compare_28 (by decide) ⟨fun c2 => ?_, fun c2 => ?_⟩
    · refine a_iconst (k := 0) dX8_compare_50 (n_lit (by decide)) ?_
      refine a_istore dX8_compare_51 (by decide) rfl ?_
      refine a_iload dX8_compare_53 rfl ?_
      refine a_aload_n dX8_compare_55 rfl rfl ?_
      refine gf_X8_41 (x := mem 8 0 3) rfl dX8_compare_56 ?_
      refine a_icmp_le (tgt := 107) dX8_compare_59 (by decide) ⟨fun c3 => ?_, fun c3 => ?_⟩
      · exact a_vret dX8_compare_107 (((h.1 c1).1 c2).1 c3)
      · refine a_aload_n dX8_compare_62 rfl rfl ?_
        refine a_iload dX8_compare_63 rfl ?_
        refine pf_X8_41 dX8_compare_65 ?_
        refine a_iconst (k := 0) dX8_compare_68 (n_lit (by decide)) ?_
        refine a_istore dX8_compare_69 (by decide) rfl ?_
        exact (((h.1 c1).1 c2).2 c3)
    · refine a_aload_n dX8_compare_31 rfl rfl ?_
      refine gf_X8_107 (x := mem 7 j2 10) rfl dX8_compare_32 ?_
      refine a_aload_n dX8_compare_35 rfl rfl ?_
      refine gf_X8_54 (x := mem 8 0 6) rfl dX8_compare_36 ?_
      refine a_ishr dX8_compare_39 ?_
      refine a_iconst (k := 1) dX8_compare_40 (n_lit (by decide)) ?_
      refine a_iand dX8_compare_41 ?_
      refine a_iconst (k := 1) dX8_compare_42 (n_lit (by decide)) ?_
      refine a_icmp_ne (tgt := 50) dX8_compare_43 (by decide) ⟨fun c4 => ?_, fun c4 => ?_⟩
      · refine a_iconst (k := 0) dX8_compare_50 (n_lit (by decide)) ?_
        refine a_istore dX8_compare_51 (by decide) rfl ?_
        refine a_iload dX8_compare_53 rfl ?_
        refine a_aload_n dX8_compare_55 rfl rfl ?_
        refine gf_X8_41 (x := mem 8 0 3) rfl dX8_compare_56 ?_
        refine a_icmp_le (tgt := 107) dX8_compare_59 (by decide) ⟨fun c5 => ?_, fun c5 => ?_⟩
        · exact a_vret dX8_compare_107 ((((h.1 c1).2 c2).1 c4).1 c5)
        · refine a_aload_n dX8_compare_62 rfl rfl ?_
          refine a_iload dX8_compare_63 rfl ?_
          refine pf_X8_41 dX8_compare_65 ?_
          refine a_iconst (k := 0) dX8_compare_68 (n_lit (by decide)) ?_
          refine a_istore dX8_compare_69 (by decide) rfl ?_
          exact ((((h.1 c1).2 c2).1 c4).2 c5)
      · refine a_iconst (k := 1) dX8_compare_46 (n_lit (by decide)) ?_
        refine a_goto (tgt := 51) dX8_compare_47 (by decide) ?_
        refine a_istore dX8_compare_51 (by decide) rfl ?_
        refine a_iload dX8_compare_53 rfl ?_
        refine a_aload_n dX8_compare_55 rfl rfl ?_
        refine gf_X8_41 (x := mem 8 0 3) rfl dX8_compare_56 ?_
        refine a_icmp_le (tgt := 107) dX8_compare_59 (by decide) ⟨fun c6 => ?_, fun c6 => ?_⟩
        · exact a_vret dX8_compare_107 ((((h.1 c1).2 c2).2 c4).1 c6)
        · refine a_aload_n dX8_compare_62 rfl rfl ?_
          refine a_iload dX8_compare_63 rfl ?_
          refine pf_X8_41 dX8_compare_65 ?_
          refine a_iconst (k := 0) dX8_compare_68 (n_lit (by decide)) ?_
          refine a_istore dX8_compare_69 (by decide) rfl ?_
          exact ((((h.1 c1).2 c2).2 c4).2 c6)
  · refine a_aload_n dX8_compare_8 rfl rfl ?_
    refine iv_X8_99 dX8_compare_9 (Nat.le_of_ble_eq_true rfl) (MtX_mono (h.2 c1) (fun r m7 hq => ?_))
    obtain ⟨x9, rfl, h8⟩ := hq
    refine ⟨x9, rfl, ?_⟩
    refine a_aload_n dX8_compare_12 rfl rfl ?_
    refine a_aload_n dX8_compare_13 rfl rfl ?_
    refine iv_X8_103 dX8_compare_14 (Nat.le_of_ble_eq_true rfl) (MtX_mono h8 (fun r m10 hq => ?_))
    obtain ⟨x12, rfl, h11⟩ := hq
    refine ⟨x12, rfl, ?_⟩
    refine a_isub dX8_compare_17 ?_
    refine a_istore dX8_compare_18 (by decide) rfl ?_
    refine a_goto (tgt := 53) dX8_compare_20 (by decide) ?_
    refine a_iload dX8_compare_53 rfl ?_
    refine a_aload_n dX8_compare_55 rfl rfl ?_
    refine gf_X8_41 (x := m10 8 0 3) rfl dX8_compare_56 ?_
    refine a_icmp_le (tgt := 107) dX8_compare_59 (by decide) ⟨fun c13 => ?_, fun c13 => ?_⟩
    · exact a_vret dX8_compare_107 (h11.1 c13)
    · refine a_aload_n dX8_compare_62 rfl rfl ?_
      refine a_iload dX8_compare_63 rfl ?_
      refine pf_X8_41 dX8_compare_65 ?_
      refine a_iconst (k := 0) dX8_compare_68 (n_lit (by decide)) ?_
      refine a_istore dX8_compare_69 (by decide) rfl ?_
      exact (h11.2 c13)
set_option maxRecDepth 10000 in
theorem sg_X8_compare_71 {d : Nat} {sx : Option (List Int)} (j2 : Nat) (a3 : Int) (a4 : Int) (a5 : Int) (mem : AMem) (Q : Option AV → AMem → Prop) (h : ((5 : Int) ≤ a5 → (Q none mem)) ∧ (¬ (5 : Int) ≤ a5 → ((a3 < a5 → ((0 ≤ a5 ∧ a5 < 5) ∧ (Y cX8_compare 6 RX8 (d + 1) sx 71 [some (vr 8 0), some (vr 2 0), some (vr 7 j2), some (vi a3), some (vi a4), some (vi (w32 (a5 + 1)))] [] (upM mem 902 0 a5 0) Q))) ∧ (¬ a3 < a5 → ((0 ≤ a5 ∧ a5 < 5) ∧ ((0 ≤ a5 ∧ a5 < 5) ∧ (Y cX8_compare 6 RX8 (d + 1) sx 71 [some (vr 8 0), some (vr 2 0), some (vr 7 j2), some (vi a3), some (vi a4), some (vi (w32 (a5 + 1)))] [] (upM mem 902 0 a5 (mem 901 0 a5)) Q))))))) : Y cX8_compare 6 RX8 (d + 1) sx 71 [some (vr 8 0), some (vr 2 0), some (vr 7 j2), some (vi a3), some (vi a4), some (vi a5)] [] mem Q := by
  refine a_iload dX8_compare_71 rfl ?_
  refine a_iconst (k := 5) dX8_compare_73 (n_lit (by decide)) ?_
  refine a_icmp_ge (tgt := 107) dX8_compare_74 (by decide) ⟨fun c1 => ?_, fun c1 => ?_⟩
  · exact a_vret dX8_compare_107 (h.1 c1)
  · refine a_aload_n dX8_compare_77 rfl rfl ?_
    refine gf_X8_21 dX8_compare_78 ?_
    refine a_iload dX8_compare_81 rfl ?_
    refine a_iload dX8_compare_83 rfl ?_
    refine a_iload_n dX8_compare_85 rfl rfl ?_
    refine a_icmp_gt (tgt := 99) dX8_compare_86 (by decide) ⟨fun c2 => ?_, fun c2 => ?_⟩
    · refine a_iconst (k := 0) dX8_compare_99 (n_lit (by decide)) ?_
      refine a_iast rfl rfl (by decide) rfl dX8_compare_100 ⟨((h.2 c1).1 c2).1, ?_⟩
      refine a_iinc dX8_compare_101 rfl (by decide) rfl ?_
      refine a_goto (tgt := 71) dX8_compare_104 (by decide) ?_
      exact ((h.2 c1).1 c2).2
    · refine a_aload_n dX8_compare_89 rfl rfl ?_
      refine gf_X8_17 dX8_compare_90 ?_
      refine a_iload dX8_compare_93 rfl ?_
      refine a_iald rfl rfl (by decide) rfl dX8_compare_95 ⟨((h.2 c1).2 c2).1, ?_⟩
      refine a_goto (tgt := 100) dX8_compare_96 (by decide) ?_
      refine a_iast rfl rfl (by decide) rfl dX8_compare_100 ⟨((h.2 c1).2 c2).2.1, ?_⟩
      refine a_iinc dX8_compare_101 rfl (by decide) rfl ?_
      refine a_goto (tgt := 71) dX8_compare_104 (by decide) ?_
      exact ((h.2 c1).2 c2).2.2
set_option maxRecDepth 10000 in
theorem sg_X9_read_0 {d : Nat} {sx : Option (List Int)} (j1 : Nat) (a2 : Int) (mem : AMem) (Q : Option AV → AMem → Prop) (h : (0 ≤ (0 : Int) ∧ (0 : Int) < 2) ∧ ((0 ≤ (1 : Int) ∧ (1 : Int) < 2) ∧ (MtX yJ7_fill_53178 cJ7_fill_53178 4 none d [vr 1001 0, vi 0] (upM (upM mem 1000 0 0 (w32 ((shl32 1 (w32 (Int.tdiv a2 10))) - 1))) 1000 0 1 (w32 ((shl32 1 (Int.tmod a2 10)) - 1))) (fun r m1 => r = none ∧ (MtX yJ7_fill_53178 cJ7_fill_53178 4 none d [vr 1002 0, vi 0] m1 (fun r m3 => r = none ∧ (Y cX9_read 5 RX9 (d + 1) sx 46 [some (vr 9 0), some (vr 10 j1), some (vi a2), some (vi 0), none] [] m3 Q))))))) : Y cX9_read 5 RX9 (d + 1) sx 0 [some (vr 9 0), some (vr 10 j1), some (vi a2), none, none] [] mem Q := by
  refine a_aload_n dX9_read_0 rfl rfl ?_
  refine gf_X9_9 dX9_read_1 ?_
  refine a_iconst (k := 0) dX9_read_4 (n_lit (by decide)) ?_
  refine a_iconst (k := 1) dX9_read_5 (n_lit (by decide)) ?_
  refine a_iload_n dX9_read_6 rfl rfl ?_
  refine a_bipush (k := 10) dX9_read_7 (by decide) (n_lit (by decide)) ?_
  refine a_idiv dX9_read_9 (by decide) ?_
  refine a_ishl dX9_read_10 ?_
  refine a_iconst (k := 1) dX9_read_11 (n_lit (by decide)) ?_
  refine a_isub dX9_read_12 ?_
  refine a_iast rfl rfl (by decide) rfl dX9_read_13 ⟨h.1, ?_⟩
  refine a_aload_n dX9_read_14 rfl rfl ?_
  refine gf_X9_9 dX9_read_15 ?_
  refine a_iconst (k := 1) dX9_read_18 (n_lit (by decide)) ?_
  refine a_iconst (k := 1) dX9_read_19 (n_lit (by decide)) ?_
  refine a_iload_n dX9_read_20 rfl rfl ?_
  refine a_bipush (k := 10) dX9_read_21 (by decide) (n_lit (by decide)) ?_
  refine a_irem dX9_read_23 (by decide) ?_
  refine a_ishl dX9_read_24 ?_
  refine a_iconst (k := 1) dX9_read_25 (n_lit (by decide)) ?_
  refine a_isub dX9_read_26 ?_
  refine a_iast rfl rfl (by decide) rfl dX9_read_27 ⟨h.2.1, ?_⟩
  refine a_aload_n dX9_read_28 rfl rfl ?_
  refine gf_X9_15 dX9_read_29 ?_
  refine a_iconst (k := 0) dX9_read_32 (n_lit (by decide)) ?_
  refine iv_X9_24 dX9_read_33 (Nat.le_of_ble_eq_true rfl) (MtX_mono h.2.2 (fun r m1 hq => ?_))
  obtain ⟨rfl, h2⟩ := hq
  refine ⟨rfl, ?_⟩
  refine a_aload_n dX9_read_36 rfl rfl ?_
  refine gf_X9_18 dX9_read_37 ?_
  refine a_iconst (k := 0) dX9_read_40 (n_lit (by decide)) ?_
  refine iv_X9_24 dX9_read_41 (Nat.le_of_ble_eq_true rfl) (MtX_mono h2 (fun r m3 hq => ?_))
  obtain ⟨rfl, h4⟩ := hq
  refine ⟨rfl, ?_⟩
  refine a_iconst (k := 0) dX9_read_44 (n_lit (by decide)) ?_
  refine a_istore_n dX9_read_45 rfl (by decide) rfl ?_
  exact h4
set_option maxRecDepth 10000 in
theorem sg_X9_read_46 {d : Nat} {sx : Option (List Int)} (j1 : Nat) (a2 : Int) (a3 : Int) (mem : AMem) (Q : Option AV → AMem → Prop) (h : ((mem 10 j1 1) ≤ a3 → (Q (some (vi (-2))) mem)) ∧ (¬ (mem 10 j1 1) ≤ a3 → ((0 ≤ a3 ∧ a3 < 60) ∧ (MtX yX9_canBe cX9_canBe 4 (some .boolean) d [vr 9 0, vi (an32 a3 1), vl (mem 1100 j1 a3)] mem (fun r m2 => ∃ x4 : Int, r = some (vi x4) ∧ ((x4 ≠ (0 : Int) → ((0 ≤ a3 ∧ a3 < 60) ∧ (MtX yX9_happen cX9_happen 5 none d [vr 9 0, vi (an32 a3 1), vi (w32 (m2 1100 j1 a3))] m2 (fun r m6 => r = none ∧ (Y cX9_read 5 RX9 (d + 1) sx 46 [some (vr 9 0), some (vr 10 j1), some (vi a2), some (vi (w32 (a3 + 1))), some (vi (an32 a3 1))] [] m6 Q))))) ∧ (x4 = (0 : Int) → (Q (some (vi a3)) m2)))))))) : Y cX9_read 5 RX9 (d + 1) sx 46 [some (vr 9 0), some (vr 10 j1), some (vi a2), some (vi a3), none] [] mem Q := by
  refine a_iload_n dX9_read_46 rfl rfl ?_
  refine a_aload_n dX9_read_47 rfl rfl ?_
  refine gf_X9_30 (x := mem 10 j1 1) rfl dX9_read_48 ?_
  refine a_icmp_ge (tgt := 95) dX9_read_51 (by decide) ⟨fun c1 => ?_, fun c1 => ?_⟩
  · refine a_bipush (k := (-2)) dX9_read_95 (by decide) (n_lit (by decide)) ?_
    exact a_iret dX9_read_97 (h.1 c1)
  · refine a_iload_n dX9_read_54 rfl rfl ?_
    refine a_iconst (k := 1) dX9_read_55 (n_lit (by decide)) ?_
    refine a_iand dX9_read_56 ?_
    refine a_istore dX9_read_57 (by decide) rfl ?_
    refine a_aload_n dX9_read_59 rfl rfl ?_
    refine a_iload dX9_read_60 rfl ?_
    refine a_aload_n dX9_read_62 rfl rfl ?_
    refine gf_X9_36 dX9_read_63 ?_
    refine a_iload_n dX9_read_66 rfl rfl ?_
    refine a_lald rfl rfl (by decide) rfl dX9_read_67 ⟨(h.2 c1).1, ?_⟩
    refine iv_X9_40 dX9_read_68 (Nat.le_of_ble_eq_true rfl) (MtX_mono (h.2 c1).2 (fun r m2 hq => ?_))
    obtain ⟨x4, rfl, h3⟩ := hq
    refine ⟨x4, rfl, ?_⟩
    refine a_if_ne (tgt := 76) dX9_read_71 (by decide) ⟨fun c5 => ?_, fun c5 => ?_⟩
    · refine a_aload_n dX9_read_76 rfl rfl ?_
      refine a_iload dX9_read_77 rfl ?_
      refine a_aload_n dX9_read_79 rfl rfl ?_
      refine gf_X9_36 dX9_read_80 ?_
      refine a_iload_n dX9_read_83 rfl rfl ?_
      refine a_lald rfl rfl (by decide) rfl dX9_read_84 ⟨(h3.1 c5).1, ?_⟩
      refine a_l2i dX9_read_85 ?_
      refine iv_X9_44 dX9_read_86 (Nat.le_of_ble_eq_true rfl) (MtX_mono (h3.1 c5).2 (fun r m6 hq => ?_))
      obtain ⟨rfl, h7⟩ := hq
      refine ⟨rfl, ?_⟩
      refine a_iinc dX9_read_89 rfl (by decide) rfl ?_
      refine a_goto (tgt := 46) dX9_read_92 (by decide) ?_
      exact h7
    · refine a_iload_n dX9_read_74 rfl rfl ?_
      exact a_iret dX9_read_75 (h3.2 c5)
set_option maxRecDepth 10000 in
theorem sg_X9_outLongest_0 {d : Nat} {sx : Option (List Int)} (a1 : Int) (mem : AMem) (Q : Option AV → AMem → Prop) (h : (0 ≤ a1 ∧ a1 < 2) ∧ (((mem 1002 0 a1) ≠ (0 : Int) → ((0 ≤ (w32 (a1 * 7)) ∧ (w32 (a1 * 7)) < 14) ∧ (Q (some (vi (mem 1003 0 (w32 (a1 * 7))))) mem))) ∧ ((mem 1002 0 a1) = (0 : Int) → (Q (some (vi (-2))) mem)))) : Y cX9_outLongest 2 RX9 (d + 1) sx 0 [some (vr 9 0), some (vi a1)] [] mem Q := by
  refine a_aload_n dX9_outLongest_0 rfl rfl ?_
  refine gf_X9_18 dX9_outLongest_1 ?_
  refine a_iload_n dX9_outLongest_4 rfl rfl ?_
  refine a_iald rfl rfl (by decide) rfl dX9_outLongest_5 ⟨h.1, ?_⟩
  refine a_if_ne (tgt := 14) dX9_outLongest_6 (by decide) ⟨fun c1 => ?_, fun c1 => ?_⟩
  · refine a_aload_n dX9_outLongest_14 rfl rfl ?_
    refine gf_X9_21 dX9_outLongest_15 ?_
    refine a_iload_n dX9_outLongest_18 rfl rfl ?_
    refine a_bipush (k := 7) dX9_outLongest_19 (by decide) (n_lit (by decide)) ?_
    refine a_imul dX9_outLongest_21 ?_
    refine a_iald rfl rfl (by decide) rfl dX9_outLongest_22 ⟨(h.2.1 c1).1, ?_⟩
    exact a_iret dX9_outLongest_23 (h.2.1 c1).2
  · refine a_bipush (k := (-2)) dX9_outLongest_9 (by decide) (n_lit (by decide)) ?_
    refine a_goto (tgt := 23) dX9_outLongest_11 (by decide) ?_
    exact a_iret dX9_outLongest_23 (h.2.2 c1)
set_option maxRecDepth 10000 in
theorem sg_X9_canBe_0 {d : Nat} {sx : Option (List Int)} (a1 : Int) (a2 : Int) (mem : AMem) (Q : Option AV → AMem → Prop) (h : (0 ≤ a1 ∧ a1 < 2) ∧ (((mem 1000 0 a1) = (0 : Int) → (Q (some (vi 0)) mem)) ∧ (¬ (mem 1000 0 a1) = (0 : Int) → (((lc a2 0) < (0 : Int) → (Q (some (vi 0)) mem)) ∧ (¬ (lc a2 0) < (0 : Int) → (((lc a2 8) ≤ (0 : Int) → (((lc a2 8) = (0 : Int) → (Q (some (vi 1)) mem)) ∧ (¬ (lc a2 8) = (0 : Int) → ((0 ≤ (w32 (1 - a1)) ∧ (w32 (1 - a1)) < 2) ∧ (MtX yJ6_bitCount_0f7a4 cJ6_bitCount_0f7a4 1 (some .int) d [vi (mem 1000 0 (w32 (1 - a1)))] mem (fun r m5 => ∃ x7 : Int, r = some (vi x7) ∧ (((0 : Int) < (lc a2 x7) → (Q (some (vi 0)) m5)) ∧ (¬ (0 : Int) < (lc a2 x7) → (Q (some (vi 1)) m5))))))))) ∧ (¬ (lc a2 8) ≤ (0 : Int) → (Q (some (vi 0)) mem)))))))) : Y cX9_canBe 4 RX9 (d + 1) sx 0 [some (vr 9 0), some (vi a1), some (vl a2), none] [] mem Q := by
  refine a_aload_n dX9_canBe_0 rfl rfl ?_
  refine gf_X9_9 dX9_canBe_1 ?_
  refine a_iload_n dX9_canBe_4 rfl rfl ?_
  refine a_iald rfl rfl (by decide) rfl dX9_canBe_5 ⟨h.1, ?_⟩
  refine a_if_eq (tgt := 23) dX9_canBe_6 (by decide) ⟨fun c1 => ?_, fun c1 => ?_⟩
  · refine a_iconst (k := 0) dX9_canBe_23 (n_lit (by decide)) ?_
    exact a_iret dX9_canBe_24 (h.2.1 c1)
  · refine a_lload_n dX9_canBe_9 rfl rfl ?_
    refine a_lconst (k := 0) dX9_canBe_10 (by decide) (n_litL (by decide)) ?_
    refine a_lcmp dX9_canBe_11 ?_
    refine a_if_lt (tgt := 23) dX9_canBe_12 (by decide) ⟨fun c2 => ?_, fun c2 => ?_⟩
    · refine a_iconst (k := 0) dX9_canBe_23 (n_lit (by decide)) ?_
      exact a_iret dX9_canBe_24 ((h.2.2 c1).1 c2)
    · refine a_lload_n dX9_canBe_15 rfl rfl ?_
      refine a_ldc2 (k := 8) cl_X9_48 (n_litL (by decide)) dX9_canBe_16 ?_
      refine a_lcmp dX9_canBe_19 ?_
      refine a_if_le (tgt := 25) dX9_canBe_20 (by decide) ⟨fun c3 => ?_, fun c3 => ?_⟩
      · refine a_lload_n dX9_canBe_25 rfl rfl ?_
        refine a_ldc2 (k := 8) cl_X9_48 (n_litL (by decide)) dX9_canBe_26 ?_
        refine a_lcmp dX9_canBe_29 ?_
        refine a_if_eq (tgt := 50) dX9_canBe_30 (by decide) ⟨fun c4 => ?_, fun c4 => ?_⟩
        · refine a_iconst (k := 1) dX9_canBe_50 (n_lit (by decide)) ?_
          refine a_goto (tgt := 55) dX9_canBe_51 (by decide) ?_
          exact a_iret dX9_canBe_55 ((((h.2.2 c1).2 c2).1 c3).1 c4)
        · refine a_lload_n dX9_canBe_33 rfl rfl ?_
          refine a_aload_n dX9_canBe_34 rfl rfl ?_
          refine gf_X9_9 dX9_canBe_35 ?_
          refine a_iconst (k := 1) dX9_canBe_38 (n_lit (by decide)) ?_
          refine a_iload_n dX9_canBe_39 rfl rfl ?_
          refine a_isub dX9_canBe_40 ?_
          refine a_iald rfl rfl (by decide) rfl dX9_canBe_41 ⟨((((h.2.2 c1).2 c2).1 c3).2 c4).1, ?_⟩
          refine iv_X9_50 dX9_canBe_42 (Nat.le_of_ble_eq_true rfl) (MtX_mono ((((h.2.2 c1).2 c2).1 c3).2 c4).2 (fun r m5 hq => ?_))
          obtain ⟨x7, rfl, h6⟩ := hq
          refine ⟨x7, rfl, ?_⟩
          refine a_i2l dX9_canBe_45 ?_
          refine a_lcmp dX9_canBe_46 ?_
          refine a_if_gt (tgt := 54) dX9_canBe_47 (by decide) ⟨fun c8 => ?_, fun c8 => ?_⟩
          · refine a_iconst (k := 0) dX9_canBe_54 (n_lit (by decide)) ?_
            exact a_iret dX9_canBe_55 (h6.1 c8)
          · refine a_iconst (k := 1) dX9_canBe_50 (n_lit (by decide)) ?_
            refine a_goto (tgt := 55) dX9_canBe_51 (by decide) ?_
            exact a_iret dX9_canBe_55 (h6.2 c8)
      · refine a_iconst (k := 0) dX9_canBe_23 (n_lit (by decide)) ?_
        exact a_iret dX9_canBe_24 (((h.2.2 c1).2 c2).2 c3)
set_option maxRecDepth 10000 in
theorem sg_X9_happen_0 {d : Nat} {sx : Option (List Int)} (a1 : Int) (a2 : Int) (mem : AMem) (Q : Option AV → AMem → Prop) (h : (a2 ≠ (8 : Int) → (Y cX9_happen 5 RX9 (d + 1) sx 34 [some (vr 9 0), some (vi a1), some (vi a2), some (vi (w32 (1 - a1))), some (vi 0)] [] mem Q)) ∧ (a2 = (8 : Int) → (MtX yX9_leave cX9_leave 3 none d [vr 9 0, vi a1] mem (fun r m2 => r = none ∧ (MtX yX9_comeIn cX9_comeIn 4 none d [vr 9 0, vi (w32 (1 - a1))] m2 (fun r m4 => r = none ∧ ((0 ≤ (w32 (1 - a1)) ∧ (w32 (1 - a1)) < 2) ∧ ((0 ≤ (w32 (1 - a1)) ∧ (w32 (1 - a1)) < 2) ∧ (Q none (upM m4 1001 0 (w32 (1 - a1)) (w32 ((m4 1001 0 (w32 (1 - a1))) + 1)))))))))))) : Y cX9_happen 5 RX9 (d + 1) sx 0 [some (vr 9 0), some (vi a1), some (vi a2), none, none] [] mem Q := by
  refine a_iconst (k := 1) dX9_happen_0 (n_lit (by decide)) ?_
  refine a_iload_n dX9_happen_1 rfl rfl ?_
  refine a_isub dX9_happen_2 ?_
  refine a_istore_n dX9_happen_3 rfl (by decide) rfl ?_
  refine a_iload_n dX9_happen_4 rfl rfl ?_
  refine a_bipush (k := 8) dX9_happen_5 (by decide) (n_lit (by decide)) ?_
  refine a_icmp_ne (tgt := 31) dX9_happen_7 (by decide) ⟨fun c1 => ?_, fun c1 => ?_⟩
  · refine a_iconst (k := 0) dX9_happen_31 (n_lit (by decide)) ?_
    refine a_istore dX9_happen_32 (by decide) rfl ?_
    exact (h.1 c1)
  · refine a_aload_n dX9_happen_10 rfl rfl ?_
    refine a_iload_n dX9_happen_11 rfl rfl ?_
    refine iv_X9_56 dX9_happen_12 (Nat.le_of_ble_eq_true rfl) (MtX_mono (h.2 c1) (fun r m2 hq => ?_))
    obtain ⟨rfl, h3⟩ := hq
    refine ⟨rfl, ?_⟩
    refine a_aload_n dX9_happen_15 rfl rfl ?_
    refine a_iload_n dX9_happen_16 rfl rfl ?_
    refine iv_X9_60 dX9_happen_17 (Nat.le_of_ble_eq_true rfl) (MtX_mono h3 (fun r m4 hq => ?_))
    obtain ⟨rfl, h5⟩ := hq
    refine ⟨rfl, ?_⟩
    refine a_aload_n dX9_happen_20 rfl rfl ?_
    refine gf_X9_15 dX9_happen_21 ?_
    refine a_iload_n dX9_happen_24 rfl rfl ?_
    refine a_dup2 dX9_happen_25 rfl rfl ?_
    refine a_iald rfl rfl (by decide) rfl dX9_happen_26 ⟨h5.1, ?_⟩
    refine a_iconst (k := 1) dX9_happen_27 (n_lit (by decide)) ?_
    refine a_iadd dX9_happen_28 ?_
    refine a_iast rfl rfl (by decide) rfl dX9_happen_29 ⟨h5.2.1, ?_⟩
    exact a_vret dX9_happen_30 h5.2.2
set_option maxRecDepth 10000 in
theorem sg_X9_happen_34 {d : Nat} {sx : Option (List Int)} (a1 : Int) (a2 : Int) (a3 : Int) (a4 : Int) (mem : AMem) (Q : Option AV → AMem → Prop) (h : (a2 ≤ a4 → ((0 ≤ a1 ∧ a1 < 2) ∧ ((0 ≤ a1 ∧ a1 < 2) ∧ (Q none (upM mem 1001 0 a1 (w32 ((mem 1001 0 a1) + a2))))))) ∧ (¬ a2 ≤ a4 → (MtX yX9_leave cX9_leave 3 none d [vr 9 0, vi a3] mem (fun r m2 => r = none ∧ (MtX yX9_comeIn cX9_comeIn 4 none d [vr 9 0, vi a1] m2 (fun r m4 => r = none ∧ (Y cX9_happen 5 RX9 (d + 1) sx 34 [some (vr 9 0), some (vi a1), some (vi a2), some (vi a3), some (vi (w32 (a4 + 1)))] [] m4 Q))))))) : Y cX9_happen 5 RX9 (d + 1) sx 34 [some (vr 9 0), some (vi a1), some (vi a2), some (vi a3), some (vi a4)] [] mem Q := by
  refine a_iload dX9_happen_34 rfl ?_
  refine a_iload_n dX9_happen_36 rfl rfl ?_
  refine a_icmp_ge (tgt := 56) dX9_happen_37 (by decide) ⟨fun c1 => ?_, fun c1 => ?_⟩
  · refine a_aload_n dX9_happen_56 rfl rfl ?_
    refine gf_X9_15 dX9_happen_57 ?_
    refine a_iload_n dX9_happen_60 rfl rfl ?_
    refine a_dup2 dX9_happen_61 rfl rfl ?_
    refine a_iald rfl rfl (by decide) rfl dX9_happen_62 ⟨(h.1 c1).1, ?_⟩
    refine a_iload_n dX9_happen_63 rfl rfl ?_
    refine a_iadd dX9_happen_64 ?_
    refine a_iast rfl rfl (by decide) rfl dX9_happen_65 ⟨(h.1 c1).2.1, ?_⟩
    exact a_vret dX9_happen_66 (h.1 c1).2.2
  · refine a_aload_n dX9_happen_40 rfl rfl ?_
    refine a_iload_n dX9_happen_41 rfl rfl ?_
    refine iv_X9_56 dX9_happen_42 (Nat.le_of_ble_eq_true rfl) (MtX_mono (h.2 c1) (fun r m2 hq => ?_))
    obtain ⟨rfl, h3⟩ := hq
    refine ⟨rfl, ?_⟩
    refine a_aload_n dX9_happen_45 rfl rfl ?_
    refine a_iload_n dX9_happen_46 rfl rfl ?_
    refine iv_X9_60 dX9_happen_47 (Nat.le_of_ble_eq_true rfl) (MtX_mono h3 (fun r m4 hq => ?_))
    obtain ⟨rfl, h5⟩ := hq
    refine ⟨rfl, ?_⟩
    refine a_iinc dX9_happen_50 rfl (by decide) rfl ?_
    refine a_goto (tgt := 34) dX9_happen_53 (by decide) ?_
    exact h5
set_option maxRecDepth 10000 in
theorem sg_X9_leave_0 {d : Nat} {sx : Option (List Int)} (a1 : Int) (mem : AMem) (Q : Option AV → AMem → Prop) (h : Y cX9_leave 3 RX9 (d + 1) sx 2 [some (vr 9 0), some (vi a1), some (vi 0)] [] mem Q) : Y cX9_leave 3 RX9 (d + 1) sx 0 [some (vr 9 0), some (vi a1), none] [] mem Q := by
  refine a_iconst (k := 0) dX9_leave_0 (n_lit (by decide)) ?_
  refine a_istore_n dX9_leave_1 rfl (by decide) rfl ?_
  exact h
set_option maxRecDepth 10000 in
theorem sg_X9_leave_2 {d : Nat} {sx : Option (List Int)} (a1 : Int) (a2 : Int) (mem : AMem) (Q : Option AV → AMem → Prop) (h : ((7 : Int) ≤ a2 → (Y cX9_leave 3 RX9 (d + 1) sx 27 [some (vr 9 0), some (vi a1), some (vi a2)] [] mem Q)) ∧ (¬ (7 : Int) ≤ a2 → ((0 ≤ a1 ∧ a1 < 2) ∧ (((an32 (shr32 (mem 1000 0 a1) a2) 1) ≠ (0 : Int) → (Y cX9_leave 3 RX9 (d + 1) sx 27 [some (vr 9 0), some (vi a1), some (vi a2)] [] mem Q)) ∧ ((an32 (shr32 (mem 1000 0 a1) a2) 1) = (0 : Int) → (Y cX9_leave 3 RX9 (d + 1) sx 2 [some (vr 9 0), some (vi a1), some (vi (w32 (a2 + 1)))] [] mem Q)))))) : Y cX9_leave 3 RX9 (d + 1) sx 2 [some (vr 9 0), some (vi a1), some (vi a2)] [] mem Q := by
  refine a_iload_n dX9_leave_2 rfl rfl ?_
  refine a_bipush (k := 7) dX9_leave_3 (by decide) (n_lit (by decide)) ?_
  refine a_icmp_ge (tgt := 27) dX9_leave_5 (by decide) ⟨fun c1 => ?_, fun c1 => ?_⟩
  · exact (h.1 c1)
  · refine a_aload_n dX9_leave_8 rfl rfl ?_
    refine gf_X9_9 dX9_leave_9 ?_
    refine a_iload_n dX9_leave_12 rfl rfl ?_
    refine a_iald rfl rfl (by decide) rfl dX9_leave_13 ⟨(h.2 c1).1, ?_⟩
    refine a_iload_n dX9_leave_14 rfl rfl ?_
    refine a_ishr dX9_leave_15 ?_
    refine a_iconst (k := 1) dX9_leave_16 (n_lit (by decide)) ?_
    refine a_iand dX9_leave_17 ?_
    refine a_if_ne (tgt := 27) dX9_leave_18 (by decide) ⟨fun c2 => ?_, fun c2 => ?_⟩
    · exact ((h.2 c1).2.1 c2)
    · refine a_iinc dX9_leave_21 rfl (by decide) rfl ?_
      refine a_goto (tgt := 2) dX9_leave_24 (by decide) ?_
      exact ((h.2 c1).2.2 c2)
set_option maxRecDepth 10000 in
theorem sg_X9_leave_27 {d : Nat} {sx : Option (List Int)} (a1 : Int) (a2 : Int) (mem : AMem) (Q : Option AV → AMem → Prop) (h : ((7 : Int) ≤ a2 → (Q none mem)) ∧ (¬ (7 : Int) ≤ a2 → ((0 ≤ a1 ∧ a1 < 2) ∧ (((7 : Int) ≤ (mem 1002 0 a1) → (Q none mem)) ∧ (¬ (7 : Int) ≤ (mem 1002 0 a1) → ((0 ≤ a1 ∧ a1 < 2) ∧ ((0 ≤ a1 ∧ a1 < 2) ∧ ((0 ≤ a1 ∧ a1 < 2) ∧ ((0 ≤ (w32 ((w32 (a1 * 7)) + (mem 1002 0 a1))) ∧ (w32 ((w32 (a1 * 7)) + (mem 1002 0 a1))) < 14) ∧ ((0 ≤ a1 ∧ a1 < 2) ∧ ((0 ≤ a1 ∧ a1 < 2) ∧ (Q none (upM (upM (upM mem 1000 0 a1 (an32 (mem 1000 0 a1) (xo32 (shl32 1 a2) (-1)))) 1003 0 (w32 ((w32 (a1 * 7)) + (mem 1002 0 a1))) a2) 1002 0 a1 (w32 ((mem 1002 0 a1) + 1))))))))))))))) : Y cX9_leave 3 RX9 (d + 1) sx 27 [some (vr 9 0), some (vi a1), some (vi a2)] [] mem Q := by
  refine a_iload_n dX9_leave_27 rfl rfl ?_
  refine a_bipush (k := 7) dX9_leave_28 (by decide) (n_lit (by decide)) ?_
  refine a_icmp_ge (tgt := 85) dX9_leave_30 (by decide) ⟨fun c1 => ?_, fun c1 => ?_⟩
  · exact a_vret dX9_leave_85 (h.1 c1)
  · refine a_aload_n dX9_leave_33 rfl rfl ?_
    refine gf_X9_18 dX9_leave_34 ?_
    refine a_iload_n dX9_leave_37 rfl rfl ?_
    refine a_iald rfl rfl (by decide) rfl dX9_leave_38 ⟨(h.2 c1).1, ?_⟩
    refine a_bipush (k := 7) dX9_leave_39 (by decide) (n_lit (by decide)) ?_
    refine a_icmp_ge (tgt := 85) dX9_leave_41 (by decide) ⟨fun c2 => ?_, fun c2 => ?_⟩
    · exact a_vret dX9_leave_85 ((h.2 c1).2.1 c2)
    · refine a_aload_n dX9_leave_44 rfl rfl ?_
      refine gf_X9_9 dX9_leave_45 ?_
      refine a_iload_n dX9_leave_48 rfl rfl ?_
      refine a_dup2 dX9_leave_49 rfl rfl ?_
      refine a_iald rfl rfl (by decide) rfl dX9_leave_50 ⟨((h.2 c1).2.2 c2).1, ?_⟩
      refine a_iconst (k := 1) dX9_leave_51 (n_lit (by decide)) ?_
      refine a_iload_n dX9_leave_52 rfl rfl ?_
      refine a_ishl dX9_leave_53 ?_
      refine a_iconst (k := (-1)) dX9_leave_54 (n_lit (by decide)) ?_
      refine a_ixor dX9_leave_55 ?_
      refine a_iand dX9_leave_56 ?_
      refine a_iast rfl rfl (by decide) rfl dX9_leave_57 ⟨((h.2 c1).2.2 c2).2.1, ?_⟩
      refine a_aload_n dX9_leave_58 rfl rfl ?_
      refine gf_X9_21 dX9_leave_59 ?_
      refine a_iload_n dX9_leave_62 rfl rfl ?_
      refine a_bipush (k := 7) dX9_leave_63 (by decide) (n_lit (by decide)) ?_
      refine a_imul dX9_leave_65 ?_
      refine a_aload_n dX9_leave_66 rfl rfl ?_
      refine gf_X9_18 dX9_leave_67 ?_
      refine a_iload_n dX9_leave_70 rfl rfl ?_
      refine a_iald rfl rfl (by decide) rfl dX9_leave_71 ⟨((h.2 c1).2.2 c2).2.2.1, ?_⟩
      refine a_iadd dX9_leave_72 ?_
      refine a_iload_n dX9_leave_73 rfl rfl ?_
      refine a_iast rfl rfl (by decide) rfl dX9_leave_74 ⟨((h.2 c1).2.2 c2).2.2.2.1, ?_⟩
      refine a_aload_n dX9_leave_75 rfl rfl ?_
      refine gf_X9_18 dX9_leave_76 ?_
      refine a_iload_n dX9_leave_79 rfl rfl ?_
      refine a_dup2 dX9_leave_80 rfl rfl ?_
      refine a_iald rfl rfl (by decide) rfl dX9_leave_81 ⟨((h.2 c1).2.2 c2).2.2.2.2.1, ?_⟩
      refine a_iconst (k := 1) dX9_leave_82 (n_lit (by decide)) ?_
      refine a_iadd dX9_leave_83 ?_
      refine a_iast rfl rfl (by decide) rfl dX9_leave_84 ⟨((h.2 c1).2.2 c2).2.2.2.2.2.1, ?_⟩
      exact a_vret dX9_leave_85 ((h.2 c1).2.2 c2).2.2.2.2.2.2
set_option maxRecDepth 10000 in
theorem sg_X9_comeIn_0 {d : Nat} {sx : Option (List Int)} (a1 : Int) (mem : AMem) (Q : Option AV → AMem → Prop) (h : (0 ≤ a1 ∧ a1 < 2) ∧ (((mem 1002 0 a1) ≠ (0 : Int) → ((0 ≤ a1 ∧ a1 < 2) ∧ ((0 ≤ (w32 (a1 * 7)) ∧ (w32 (a1 * 7)) < 14) ∧ ((0 ≤ a1 ∧ a1 < 2) ∧ ((0 ≤ a1 ∧ a1 < 2) ∧ ((0 ≤ a1 ∧ a1 < 2) ∧ (Y cX9_comeIn 4 RX9 (d + 1) sx 44 [some (vr 9 0), some (vi a1), some (vi (w32 (a1 * 7))), some (vi 0)] [] (upM (upM mem 1000 0 a1 (or_32 (mem 1000 0 a1) (shl32 1 (mem 1003 0 (w32 (a1 * 7)))))) 1002 0 a1 (w32 ((mem 1002 0 a1) - 1))) Q))))))) ∧ ((mem 1002 0 a1) = (0 : Int) → (Q none mem)))) : Y cX9_comeIn 4 RX9 (d + 1) sx 0 [some (vr 9 0), some (vi a1), none, none] [] mem Q := by
  refine a_aload_n dX9_comeIn_0 rfl rfl ?_
  refine gf_X9_18 dX9_comeIn_1 ?_
  refine a_iload_n dX9_comeIn_4 rfl rfl ?_
  refine a_iald rfl rfl (by decide) rfl dX9_comeIn_5 ⟨h.1, ?_⟩
  refine a_if_ne (tgt := 10) dX9_comeIn_6 (by decide) ⟨fun c1 => ?_, fun c1 => ?_⟩
  · refine a_iload_n dX9_comeIn_10 rfl rfl ?_
    refine a_bipush (k := 7) dX9_comeIn_11 (by decide) (n_lit (by decide)) ?_
    refine a_imul dX9_comeIn_13 ?_
    refine a_istore_n dX9_comeIn_14 rfl (by decide) rfl ?_
    refine a_aload_n dX9_comeIn_15 rfl rfl ?_
    refine gf_X9_9 dX9_comeIn_16 ?_
    refine a_iload_n dX9_comeIn_19 rfl rfl ?_
    refine a_dup2 dX9_comeIn_20 rfl rfl ?_
    refine a_iald rfl rfl (by decide) rfl dX9_comeIn_21 ⟨(h.2.1 c1).1, ?_⟩
    refine a_iconst (k := 1) dX9_comeIn_22 (n_lit (by decide)) ?_
    refine a_aload_n dX9_comeIn_23 rfl rfl ?_
    refine gf_X9_21 dX9_comeIn_24 ?_
    refine a_iload_n dX9_comeIn_27 rfl rfl ?_
    refine a_iald rfl rfl (by decide) rfl dX9_comeIn_28 ⟨(h.2.1 c1).2.1, ?_⟩
    refine a_ishl dX9_comeIn_29 ?_
    refine a_ior dX9_comeIn_30 ?_
    refine a_iast rfl rfl (by decide) rfl dX9_comeIn_31 ⟨(h.2.1 c1).2.2.1, ?_⟩
    refine a_aload_n dX9_comeIn_32 rfl rfl ?_
    refine gf_X9_18 dX9_comeIn_33 ?_
    refine a_iload_n dX9_comeIn_36 rfl rfl ?_
    refine a_dup2 dX9_comeIn_37 rfl rfl ?_
    refine a_iald rfl rfl (by decide) rfl dX9_comeIn_38 ⟨(h.2.1 c1).2.2.2.1, ?_⟩
    refine a_iconst (k := 1) dX9_comeIn_39 (n_lit (by decide)) ?_
    refine a_isub dX9_comeIn_40 ?_
    refine a_iast rfl rfl (by decide) rfl dX9_comeIn_41 ⟨(h.2.1 c1).2.2.2.2.1, ?_⟩
    refine a_iconst (k := 0) dX9_comeIn_42 (n_lit (by decide)) ?_
    refine a_istore_n dX9_comeIn_43 rfl (by decide) rfl ?_
    exact (h.2.1 c1).2.2.2.2.2
  · exact a_vret dX9_comeIn_9 (h.2.2 c1)
set_option maxRecDepth 10000 in
theorem sg_X9_comeIn_44 {d : Nat} {sx : Option (List Int)} (a1 : Int) (a2 : Int) (a3 : Int) (mem : AMem) (Q : Option AV → AMem → Prop) (h : (0 ≤ a1 ∧ a1 < 2) ∧ (((mem 1002 0 a1) ≤ a3 → (Q none mem)) ∧ (¬ (mem 1002 0 a1) ≤ a3 → ((0 ≤ (w32 ((w32 (a2 + a3)) + 1)) ∧ (w32 ((w32 (a2 + a3)) + 1)) < 14) ∧ ((0 ≤ (w32 (a2 + a3)) ∧ (w32 (a2 + a3)) < 14) ∧ (Y cX9_comeIn 4 RX9 (d + 1) sx 44 [some (vr 9 0), some (vi a1), some (vi a2), some (vi (w32 (a3 + 1)))] [] (upM mem 1003 0 (w32 (a2 + a3)) (mem 1003 0 (w32 ((w32 (a2 + a3)) + 1)))) Q)))))) : Y cX9_comeIn 4 RX9 (d + 1) sx 44 [some (vr 9 0), some (vi a1), some (vi a2), some (vi a3)] [] mem Q := by
  refine a_iload_n dX9_comeIn_44 rfl rfl ?_
  refine a_aload_n dX9_comeIn_45 rfl rfl ?_
  refine gf_X9_18 dX9_comeIn_46 ?_
  refine a_iload_n dX9_comeIn_49 rfl rfl ?_
  refine a_iald rfl rfl (by decide) rfl dX9_comeIn_50 ⟨h.1, ?_⟩
  refine a_icmp_ge (tgt := 78) dX9_comeIn_51 (by decide) ⟨fun c1 => ?_, fun c1 => ?_⟩
  · exact a_vret dX9_comeIn_78 (h.2.1 c1)
  · refine a_aload_n dX9_comeIn_54 rfl rfl ?_
    refine gf_X9_21 dX9_comeIn_55 ?_
    refine a_iload_n dX9_comeIn_58 rfl rfl ?_
    refine a_iload_n dX9_comeIn_59 rfl rfl ?_
    refine a_iadd dX9_comeIn_60 ?_
    refine a_aload_n dX9_comeIn_61 rfl rfl ?_
    refine gf_X9_21 dX9_comeIn_62 ?_
    refine a_iload_n dX9_comeIn_65 rfl rfl ?_
    refine a_iload_n dX9_comeIn_66 rfl rfl ?_
    refine a_iadd dX9_comeIn_67 ?_
    refine a_iconst (k := 1) dX9_comeIn_68 (n_lit (by decide)) ?_
    refine a_iadd dX9_comeIn_69 ?_
    refine a_iald rfl rfl (by decide) rfl dX9_comeIn_70 ⟨(h.2.2 c1).1, ?_⟩
    refine a_iast rfl rfl (by decide) rfl dX9_comeIn_71 ⟨(h.2.2 c1).2.1, ?_⟩
    refine a_iinc dX9_comeIn_72 rfl (by decide) rfl ?_
    refine a_goto (tgt := 44) dX9_comeIn_75 (by decide) ?_
    exact (h.2.2 c1).2.2
set_option maxRecDepth 10000 in
theorem sg_X10_isEmpty_0 {d : Nat} {sx : Option (List Int)} (j0 : Nat) (mem : AMem) (Q : Option AV → AMem → Prop) (h : ((mem 10 j0 4) ≠ (0 : Int) → (Q (some (vi 0)) mem)) ∧ ((mem 10 j0 4) = (0 : Int) → (Q (some (vi 1)) mem))) : Y cX10_isEmpty 1 RX10 (d + 1) sx 0 [some (vr 10 j0)] [] mem Q := by
  refine a_aload_n dX10_isEmpty_0 rfl rfl ?_
  refine gf_X10_15 (x := mem 10 j0 4) rfl dX10_isEmpty_1 ?_
  refine a_if_ne (tgt := 11) dX10_isEmpty_4 (by decide) ⟨fun c1 => ?_, fun c1 => ?_⟩
  · refine a_iconst (k := 0) dX10_isEmpty_11 (n_lit (by decide)) ?_
    exact a_iret dX10_isEmpty_12 (h.1 c1)
  · refine a_iconst (k := 1) dX10_isEmpty_7 (n_lit (by decide)) ?_
    refine a_goto (tgt := 12) dX10_isEmpty_8 (by decide) ?_
    exact a_iret dX10_isEmpty_12 (h.2 c1)
set_option maxRecDepth 10000 in
theorem sg_X10_holdsRow_0 {d : Nat} {sx : Option (List Int)} (j0 : Nat) (mem : AMem) (Q : Option AV → AMem → Prop) (h : ((mem 10 j0 4) ≠ (2 : Int) → (Q (some (vi 0)) mem)) ∧ ((mem 10 j0 4) = (2 : Int) → (Q (some (vi 1)) mem))) : Y cX10_holdsRow 1 RX10 (d + 1) sx 0 [some (vr 10 j0)] [] mem Q := by
  refine a_aload_n dX10_holdsRow_0 rfl rfl ?_
  refine gf_X10_15 (x := mem 10 j0 4) rfl dX10_holdsRow_1 ?_
  refine a_iconst (k := 2) dX10_holdsRow_4 (n_lit (by decide)) ?_
  refine a_icmp_ne (tgt := 12) dX10_holdsRow_5 (by decide) ⟨fun c1 => ?_, fun c1 => ?_⟩
  · refine a_iconst (k := 0) dX10_holdsRow_12 (n_lit (by decide)) ?_
    exact a_iret dX10_holdsRow_13 (h.1 c1)
  · refine a_iconst (k := 1) dX10_holdsRow_8 (n_lit (by decide)) ?_
    refine a_goto (tgt := 13) dX10_holdsRow_9 (by decide) ?_
    exact a_iret dX10_holdsRow_13 (h.2 c1)
set_option maxRecDepth 10000 in
theorem sg_X10_holdsBytes_0 {d : Nat} {sx : Option (List Int)} (j0 : Nat) (mem : AMem) (Q : Option AV → AMem → Prop) (h : ((mem 10 j0 4) ≠ (2 : Int) → (Q (some (vi 0)) mem)) ∧ ((mem 10 j0 4) = (2 : Int) → (((mem 10 j0 2) ≠ (0 : Int) → (Q (some (vi 0)) mem)) ∧ ((mem 10 j0 2) = (0 : Int) → (Q (some (vi 1)) mem))))) : Y cX10_holdsBytes 1 RX10 (d + 1) sx 0 [some (vr 10 j0)] [] mem Q := by
  refine a_aload_n dX10_holdsBytes_0 rfl rfl ?_
  refine gf_X10_15 (x := mem 10 j0 4) rfl dX10_holdsBytes_1 ?_
  refine a_iconst (k := 2) dX10_holdsBytes_4 (n_lit (by decide)) ?_
  refine a_icmp_ne (tgt := 19) dX10_holdsBytes_5 (by decide) ⟨fun c1 => ?_, fun c1 => ?_⟩
  · refine a_iconst (k := 0) dX10_holdsBytes_19 (n_lit (by decide)) ?_
    exact a_iret dX10_holdsBytes_20 (h.1 c1)
  · refine a_aload_n dX10_holdsBytes_8 rfl rfl ?_
    refine gf_X10_19 (x := mem 10 j0 2) rfl dX10_holdsBytes_9 ?_
    refine a_if_ne (tgt := 19) dX10_holdsBytes_12 (by decide) ⟨fun c2 => ?_, fun c2 => ?_⟩
    · refine a_iconst (k := 0) dX10_holdsBytes_19 (n_lit (by decide)) ?_
      exact a_iret dX10_holdsBytes_20 ((h.2 c1).1 c2)
    · refine a_iconst (k := 1) dX10_holdsBytes_15 (n_lit (by decide)) ?_
      refine a_goto (tgt := 20) dX10_holdsBytes_16 (by decide) ?_
      exact a_iret dX10_holdsBytes_20 ((h.2 c1).2 c2)
set_option maxRecDepth 10000 in
theorem sg_X10_holdBody_0 {d : Nat} {sx : Option (List Int)} (j0 : Nat) (a1 : Int) (mem : AMem) (Q : Option AV → AMem → Prop) (h : ((0 : Int) ≤ a1 → (Q none (upM (upM mem 10 j0 4 1) 10 j0 3 a1))) ∧ (¬ (0 : Int) ≤ a1 → (Q none (upM (upM mem 10 j0 4 0) 10 j0 3 a1)))) : Y cX10_holdBody 2 RX10 (d + 1) sx 0 [some (vr 10 j0), some (vi a1)] [] mem Q := by
  refine a_aload_n dX10_holdBody_0 rfl rfl ?_
  refine a_iload_n dX10_holdBody_1 rfl rfl ?_
  refine a_if_ge (tgt := 9) dX10_holdBody_2 (by decide) ⟨fun c1 => ?_, fun c1 => ?_⟩
  · refine a_iconst (k := 1) dX10_holdBody_9 (n_lit (by decide)) ?_
    refine pf_X10_15 dX10_holdBody_10 ?_
    refine a_aload_n dX10_holdBody_13 rfl rfl ?_
    refine a_iload_n dX10_holdBody_14 rfl rfl ?_
    refine pf_X10_22 dX10_holdBody_15 ?_
    exact a_vret dX10_holdBody_18 (h.1 c1)
  · refine a_iconst (k := 0) dX10_holdBody_5 (n_lit (by decide)) ?_
    refine a_goto (tgt := 10) dX10_holdBody_6 (by decide) ?_
    refine pf_X10_15 dX10_holdBody_10 ?_
    refine a_aload_n dX10_holdBody_13 rfl rfl ?_
    refine a_iload_n dX10_holdBody_14 rfl rfl ?_
    refine pf_X10_22 dX10_holdBody_15 ?_
    exact a_vret dX10_holdBody_18 (h.2 c1)
set_option maxRecDepth 10000 in
theorem sg_X10_holdRow_0 {d : Nat} {sx : Option (List Int)} (j0 : Nat) (a1 : Int) (a2 : Int) (mem : AMem) (Q : Option AV → AMem → Prop) (h : MtX yJ7_fill_d0a16 cJ7_fill_d0a16 5 none d [vr 1100 j0, vl 0] (upM (upM (upM mem 10 j0 4 2) 10 j0 2 a1) 10 j0 1 a2) (fun r m1 => r = none ∧ (Q none m1))) : Y cX10_holdRow 3 RX10 (d + 1) sx 0 [some (vr 10 j0), some (vi a1), some (vi a2)] [] mem Q := by
  refine a_aload_n dX10_holdRow_0 rfl rfl ?_
  refine a_iconst (k := 2) dX10_holdRow_1 (n_lit (by decide)) ?_
  refine pf_X10_15 dX10_holdRow_2 ?_
  refine a_aload_n dX10_holdRow_5 rfl rfl ?_
  refine a_iload_n dX10_holdRow_6 rfl rfl ?_
  refine pf_X10_19 dX10_holdRow_7 ?_
  refine a_aload_n dX10_holdRow_10 rfl rfl ?_
  refine a_iload_n dX10_holdRow_11 rfl rfl ?_
  refine pf_X10_25 dX10_holdRow_12 ?_
  refine a_aload_n dX10_holdRow_15 rfl rfl ?_
  refine gf_X10_11 dX10_holdRow_16 ?_
  refine a_lconst (k := 0) dX10_holdRow_19 (by decide) (n_litL (by decide)) ?_
  refine iv_X10_28 dX10_holdRow_20 (Nat.le_of_ble_eq_true rfl) (MtX_mono h (fun r m1 hq => ?_))
  obtain ⟨rfl, h2⟩ := hq
  refine ⟨rfl, ?_⟩
  exact a_vret dX10_holdRow_23 h2
set_option maxRecDepth 10000 in
theorem sg_X10_reaches_0 {d : Nat} {sx : Option (List Int)} (j0 : Nat) (a1 : Int) (a2 : Int) (mem : AMem) (Q : Option AV → AMem → Prop) (h : (a1 < (0 : Int) → (Q (some (vi 0)) mem)) ∧ (¬ a1 < (0 : Int) → ((a2 < (0 : Int) → (Q (some (vi 0)) mem)) ∧ (¬ a2 < (0 : Int) → (((mem 10 j0 1) < a1 → (Q (some (vi 0)) mem)) ∧ (¬ (mem 10 j0 1) < a1 → (((w32 ((mem 10 j0 1) - a1)) < a2 → (Q (some (vi 0)) mem)) ∧ (¬ (w32 ((mem 10 j0 1) - a1)) < a2 → (Q (some (vi 1)) mem))))))))) : Y cX10_reaches 3 RX10 (d + 1) sx 0 [some (vr 10 j0), some (vi a1), some (vi a2)] [] mem Q := by
  refine a_iload_n dX10_reaches_0 rfl rfl ?_
  refine a_if_lt (tgt := 30) dX10_reaches_1 (by decide) ⟨fun c1 => ?_, fun c1 => ?_⟩
  · refine a_iconst (k := 0) dX10_reaches_30 (n_lit (by decide)) ?_
    exact a_iret dX10_reaches_31 (h.1 c1)
  · refine a_iload_n dX10_reaches_4 rfl rfl ?_
    refine a_if_lt (tgt := 30) dX10_reaches_5 (by decide) ⟨fun c2 => ?_, fun c2 => ?_⟩
    · refine a_iconst (k := 0) dX10_reaches_30 (n_lit (by decide)) ?_
      exact a_iret dX10_reaches_31 ((h.2 c1).1 c2)
    · refine a_iload_n dX10_reaches_8 rfl rfl ?_
      refine a_aload_n dX10_reaches_9 rfl rfl ?_
      refine gf_X10_25 (x := mem 10 j0 1) rfl dX10_reaches_10 ?_
      refine a_icmp_gt (tgt := 30) dX10_reaches_13 (by decide) ⟨fun c3 => ?_, fun c3 => ?_⟩
      · refine a_iconst (k := 0) dX10_reaches_30 (n_lit (by decide)) ?_
        exact a_iret dX10_reaches_31 (((h.2 c1).2 c2).1 c3)
      · refine a_iload_n dX10_reaches_16 rfl rfl ?_
        refine a_aload_n dX10_reaches_17 rfl rfl ?_
        refine gf_X10_25 (x := mem 10 j0 1) rfl dX10_reaches_18 ?_
        refine a_iload_n dX10_reaches_21 rfl rfl ?_
        refine a_isub dX10_reaches_22 ?_
        refine a_icmp_gt (tgt := 30) dX10_reaches_23 (by decide) ⟨fun c4 => ?_, fun c4 => ?_⟩
        · refine a_iconst (k := 0) dX10_reaches_30 (n_lit (by decide)) ?_
          exact a_iret dX10_reaches_31 ((((h.2 c1).2 c2).2 c3).1 c4)
        · refine a_iconst (k := 1) dX10_reaches_26 (n_lit (by decide)) ?_
          refine a_goto (tgt := 31) dX10_reaches_27 (by decide) ?_
          exact a_iret dX10_reaches_31 ((((h.2 c1).2 c2).2 c3).2 c4)
set_option maxRecDepth 10000 in
theorem sg_X10_store_0 {d : Nat} {sx : Option (List Int)} (j0 : Nat) (a1 : Int) (a2 : Int) (mem : AMem) (Q : Option AV → AMem → Prop) (h : ((mem 10 j0 2) = 0 → ((0 ≤ a1 ∧ a1 < 60) ∧ (Q none (upM mem 1100 j0 a1 (b8 (w32 a2)))))) ∧ ((mem 10 j0 2) = 1 → ((0 ≤ a1 ∧ a1 < 60) ∧ (Q none (upM mem 1100 j0 a1 (s16 (w32 a2)))))) ∧ ((mem 10 j0 2) = 2 → ((0 ≤ a1 ∧ a1 < 60) ∧ (Q none (upM mem 1100 j0 a1 (w32 a2))))) ∧ ((mem 10 j0 2) = 3 → ((0 ≤ a1 ∧ a1 < 60) ∧ (Q none (upM mem 1100 j0 a1 a2)))) ∧ (¬ (0 ≤ (mem 10 j0 2) ∧ (mem 10 j0 2) ≤ 3) → (((lc a2 0) = (0 : Int) → ((0 ≤ a1 ∧ a1 < 60) ∧ (Q none (upM mem 1100 j0 a1 0)))) ∧ (¬ (lc a2 0) = (0 : Int) → ((0 ≤ a1 ∧ a1 < 60) ∧ (Q none (upM mem 1100 j0 a1 1))))))) : Y cX10_store 4 RX10 (d + 1) sx 0 [some (vr 10 j0), some (vi a1), some (vl a2), none] [] mem Q := by
  refine a_aload_n dX10_store_0 rfl rfl ?_
  refine gf_X10_19 (x := mem 10 j0 2) rfl dX10_store_1 ?_
  refine a_table dX10_store_4 (fun z => if z = 0 then 36 else if z = 1 then 49 else if z = 2 then 62 else if z = 3 then 74 else 0) 84 (by decide) (by decide) (by decide) ⟨fun e1a e1b => ?_, fun e2 => ?_⟩
  · rcases (by omega : (mem 10 j0 2) = 0 ∨ (mem 10 j0 2) = 1 ∨ (mem 10 j0 2) = 2 ∨ (mem 10 j0 2) = 3) with e1 | e1 | e1 | e1
    · refine Y_at (pc := 36) (by rw [e1]; rfl) ?_
      refine a_aload_n dX10_store_36 rfl rfl ?_
      refine gf_X10_11 dX10_store_37 ?_
      refine a_iload_n dX10_store_40 rfl rfl ?_
      refine a_lload_n dX10_store_41 rfl rfl ?_
      refine a_l2i dX10_store_42 ?_
      refine a_i2b dX10_store_43 ?_
      refine a_i2l dX10_store_44 ?_
      refine a_last rfl rfl (by decide) rfl dX10_store_45 ⟨(h.1 e1).1, ?_⟩
      refine a_goto (tgt := 101) dX10_store_46 (by decide) ?_
      exact a_vret dX10_store_101 (h.1 e1).2
    · refine Y_at (pc := 49) (by rw [e1]; rfl) ?_
      refine a_aload_n dX10_store_49 rfl rfl ?_
      refine gf_X10_11 dX10_store_50 ?_
      refine a_iload_n dX10_store_53 rfl rfl ?_
      refine a_lload_n dX10_store_54 rfl rfl ?_
      refine a_l2i dX10_store_55 ?_
      refine a_i2s dX10_store_56 ?_
      refine a_i2l dX10_store_57 ?_
      refine a_last rfl rfl (by decide) rfl dX10_store_58 ⟨(h.2.1 e1).1, ?_⟩
      refine a_goto (tgt := 101) dX10_store_59 (by decide) ?_
      exact a_vret dX10_store_101 (h.2.1 e1).2
    · refine Y_at (pc := 62) (by rw [e1]; rfl) ?_
      refine a_aload_n dX10_store_62 rfl rfl ?_
      refine gf_X10_11 dX10_store_63 ?_
      refine a_iload_n dX10_store_66 rfl rfl ?_
      refine a_lload_n dX10_store_67 rfl rfl ?_
      refine a_l2i dX10_store_68 ?_
      refine a_i2l dX10_store_69 ?_
      refine a_last rfl rfl (by decide) rfl dX10_store_70 ⟨(h.2.2.1 e1).1, ?_⟩
      refine a_goto (tgt := 101) dX10_store_71 (by decide) ?_
      exact a_vret dX10_store_101 (h.2.2.1 e1).2
    · refine Y_at (pc := 74) (by rw [e1]; rfl) ?_
      refine a_aload_n dX10_store_74 rfl rfl ?_
      refine gf_X10_11 dX10_store_75 ?_
      refine a_iload_n dX10_store_78 rfl rfl ?_
      refine a_lload_n dX10_store_79 rfl rfl ?_
      refine a_last rfl rfl (by decide) rfl dX10_store_80 ⟨(h.2.2.2.1 e1).1, ?_⟩
      refine a_goto (tgt := 101) dX10_store_81 (by decide) ?_
      exact a_vret dX10_store_101 (h.2.2.2.1 e1).2
  · refine a_aload_n dX10_store_84 rfl rfl ?_
    refine gf_X10_11 dX10_store_85 ?_
    refine a_iload_n dX10_store_88 rfl rfl ?_
    refine a_lload_n dX10_store_89 rfl rfl ?_
    refine a_lconst (k := 0) dX10_store_90 (by decide) (n_litL (by decide)) ?_
    refine a_lcmp dX10_store_91 ?_
    refine a_if_eq (tgt := 99) dX10_store_92 (by decide) ⟨fun c3 => ?_, fun c3 => ?_⟩
    · refine a_lconst (k := 0) dX10_store_99 (by decide) (n_litL (by decide)) ?_
      refine a_last rfl rfl (by decide) rfl dX10_store_100 ⟨((h.2.2.2.2 e2).1 c3).1, ?_⟩
      exact a_vret dX10_store_101 ((h.2.2.2.2 e2).1 c3).2
    · refine a_lconst (k := 1) dX10_store_95 (by decide) (n_litL (by decide)) ?_
      refine a_goto (tgt := 100) dX10_store_96 (by decide) ?_
      refine a_last rfl rfl (by decide) rfl dX10_store_100 ⟨((h.2.2.2.2 e2).2 c3).1, ?_⟩
      exact a_vret dX10_store_101 ((h.2.2.2.2 e2).2 c3).2
set_option maxRecDepth 10000 in
theorem sg_X10_moveAt_0 {d : Nat} {sx : Option (List Int)} (j0 : Nat) (a1 : Int) (mem : AMem) (Q : Option AV → AMem → Prop) (h : (a1 < (0 : Int) → (Q (some (vi 0)) mem)) ∧ (¬ a1 < (0 : Int) → (((mem 10 j0 1) ≤ a1 → (Q (some (vi 0)) mem)) ∧ (¬ (mem 10 j0 1) ≤ a1 → ((0 ≤ a1 ∧ a1 < 60) ∧ (((lc (mem 1100 j0 a1) 0) < (0 : Int) → (Q (some (vi 0)) mem)) ∧ (¬ (lc (mem 1100 j0 a1) 0) < (0 : Int) → ((0 ≤ a1 ∧ a1 < 60) ∧ (((lc (mem 1100 j0 a1) 4) ≤ (0 : Int) → ((0 ≤ a1 ∧ a1 < 60) ∧ (Q (some (vi (w32 (mem 1100 j0 a1)))) mem))) ∧ (¬ (lc (mem 1100 j0 a1) 4) ≤ (0 : Int) → (Q (some (vi 0)) mem))))))))))) : Y cX10_moveAt 2 RX10 (d + 1) sx 0 [some (vr 10 j0), some (vi a1)] [] mem Q := by
  refine a_iload_n dX10_moveAt_0 rfl rfl ?_
  refine a_if_lt (tgt := 36) dX10_moveAt_1 (by decide) ⟨fun c1 => ?_, fun c1 => ?_⟩
  · refine a_iconst (k := 0) dX10_moveAt_36 (n_lit (by decide)) ?_
    exact a_iret dX10_moveAt_37 (h.1 c1)
  · refine a_iload_n dX10_moveAt_4 rfl rfl ?_
    refine a_aload_n dX10_moveAt_5 rfl rfl ?_
    refine gf_X10_25 (x := mem 10 j0 1) rfl dX10_moveAt_6 ?_
    refine a_icmp_ge (tgt := 36) dX10_moveAt_9 (by decide) ⟨fun c2 => ?_, fun c2 => ?_⟩
    · refine a_iconst (k := 0) dX10_moveAt_36 (n_lit (by decide)) ?_
      exact a_iret dX10_moveAt_37 ((h.2 c1).1 c2)
    · refine a_aload_n dX10_moveAt_12 rfl rfl ?_
      refine gf_X10_11 dX10_moveAt_13 ?_
      refine a_iload_n dX10_moveAt_16 rfl rfl ?_
      refine a_lald rfl rfl (by decide) rfl dX10_moveAt_17 ⟨((h.2 c1).2 c2).1, ?_⟩
      refine a_lconst (k := 0) dX10_moveAt_18 (by decide) (n_litL (by decide)) ?_
      refine a_lcmp dX10_moveAt_19 ?_
      refine a_if_lt (tgt := 36) dX10_moveAt_20 (by decide) ⟨fun c3 => ?_, fun c3 => ?_⟩
      · refine a_iconst (k := 0) dX10_moveAt_36 (n_lit (by decide)) ?_
        exact a_iret dX10_moveAt_37 (((h.2 c1).2 c2).2.1 c3)
      · refine a_aload_n dX10_moveAt_23 rfl rfl ?_
        refine gf_X10_11 dX10_moveAt_24 ?_
        refine a_iload_n dX10_moveAt_27 rfl rfl ?_
        refine a_lald rfl rfl (by decide) rfl dX10_moveAt_28 ⟨(((h.2 c1).2 c2).2.2 c3).1, ?_⟩
        refine a_ldc2 (k := 4) cl_X10_34 (n_litL (by decide)) dX10_moveAt_29 ?_
        refine a_lcmp dX10_moveAt_32 ?_
        refine a_if_le (tgt := 38) dX10_moveAt_33 (by decide) ⟨fun c4 => ?_, fun c4 => ?_⟩
        · refine a_aload_n dX10_moveAt_38 rfl rfl ?_
          refine gf_X10_11 dX10_moveAt_39 ?_
          refine a_iload_n dX10_moveAt_42 rfl rfl ?_
          refine a_lald rfl rfl (by decide) rfl dX10_moveAt_43 ⟨((((h.2 c1).2 c2).2.2 c3).2.1 c4).1, ?_⟩
          refine a_l2i dX10_moveAt_44 ?_
          exact a_iret dX10_moveAt_45 ((((h.2 c1).2 c2).2.2 c3).2.1 c4).2
        · refine a_iconst (k := 0) dX10_moveAt_36 (n_lit (by decide)) ?_
          exact a_iret dX10_moveAt_37 ((((h.2 c1).2 c2).2.2 c3).2.2 c4)
