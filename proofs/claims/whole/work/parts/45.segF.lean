set_option maxRecDepth 10000 in
theorem sg_X12_besides_0 {d : Nat} {sx : Option (List Int)} (a1 : Int) (mem : AMem) (Q : Option AV → AMem → Prop) (h : Y cX12_besides 4 RX12 (d + 1) sx 4 [some (vr 12 0), some (vi a1), some (vi 0), some (vi 0)] [] mem Q) : Y cX12_besides 4 RX12 (d + 1) sx 0 [some (vr 12 0), some (vi a1), none, none] [] mem Q := by
  refine a_iconst (k := 0) dX12_besides_0 (n_lit (by decide)) ?_
  refine a_istore_n dX12_besides_1 rfl (by decide) rfl ?_
  refine a_iconst (k := 0) dX12_besides_2 (n_lit (by decide)) ?_
  refine a_istore_n dX12_besides_3 rfl (by decide) rfl ?_
  exact h
set_option maxRecDepth 10000 in
theorem sg_X12_besides_4 {d : Nat} {sx : Option (List Int)} (a1 : Int) (a2 : Int) (a3 : Int) (mem : AMem) (Q : Option AV → AMem → Prop) (h : ((mem 12 0 1) ≤ a3 → (Q (some (vi a2)) mem)) ∧ (¬ (mem 12 0 1) ≤ a3 → ((a3 = a1 → (Y cX12_besides 4 RX12 (d + 1) sx 4 [some (vr 12 0), some (vi a1), some (vi a2), some (vi (w32 (a3 + 1)))] [] mem Q)) ∧ (¬ a3 = a1 → (MtX yX12_isInNow cX12_isInNow 2 (some .boolean) d [vr 12 0, vi a3] mem (fun r m3 => ∃ x5 : Int, r = some (vi x5) ∧ ((x5 = (0 : Int) → (Y cX12_besides 4 RX12 (d + 1) sx 4 [some (vr 12 0), some (vi a1), some (vi a2), some (vi (w32 (a3 + 1)))] [] m3 Q)) ∧ (¬ x5 = (0 : Int) → ((0 ≤ a1 ∧ a1 < 7) ∧ ((0 ≤ a3 ∧ a3 < 7) ∧ (MtX yX12_apart cX12_apart 2 (some .int) d [vi (m3 1327 0 a1), vi (m3 1327 0 a3)] m3 (fun r m7 => ∃ x9 : Int, r = some (vi x9) ∧ ((0 ≤ a1 ∧ a1 < 7) ∧ ((0 ≤ a3 ∧ a3 < 7) ∧ (MtX yX12_apart cX12_apart 2 (some .int) d [vi (m7 1328 0 a1), vi (m7 1328 0 a3)] m7 (fun r m10 => ∃ x12 : Int, r = some (vi x12) ∧ (((w32 (x9 + x12)) ≠ (1 : Int) → (Y cX12_besides 4 RX12 (d + 1) sx 4 [some (vr 12 0), some (vi a1), some (vi a2), some (vi (w32 (a3 + 1)))] [] m10 Q)) ∧ ((w32 (x9 + x12)) = (1 : Int) → (Y cX12_besides 4 RX12 (d + 1) sx 4 [some (vr 12 0), some (vi a1), some (vi (w32 (a2 + 1))), some (vi (w32 (a3 + 1)))] [] m10 Q))))))))))))))))))) : Y cX12_besides 4 RX12 (d + 1) sx 4 [some (vr 12 0), some (vi a1), some (vi a2), some (vi a3)] [] mem Q := by
  refine a_iload_n dX12_besides_4 rfl rfl ?_
  refine a_aload_n dX12_besides_5 rfl rfl ?_
  refine gf_X12_125 (x := mem 12 0 1) rfl dX12_besides_6 ?_
  refine a_icmp_ge (tgt := 69) dX12_besides_9 (by decide) ⟨fun c1 => ?_, fun c1 => ?_⟩
  · refine a_iload_n dX12_besides_69 rfl rfl ?_
    exact a_iret dX12_besides_70 (h.1 c1)
  · refine a_iload_n dX12_besides_12 rfl rfl ?_
    refine a_iload_n dX12_besides_13 rfl rfl ?_
    refine a_icmp_eq (tgt := 63) dX12_besides_14 (by decide) ⟨fun c2 => ?_, fun c2 => ?_⟩
    · refine a_iinc dX12_besides_63 rfl (by decide) rfl ?_
      refine a_goto (tgt := 4) dX12_besides_66 (by decide) ?_
      exact ((h.2 c1).1 c2)
    · refine a_aload_n dX12_besides_17 rfl rfl ?_
      refine a_iload_n dX12_besides_18 rfl rfl ?_
      refine iv_X12_273 dX12_besides_19 (Nat.le_of_ble_eq_true rfl) (MtX_mono ((h.2 c1).2 c2) (fun r m3 hq => ?_))
      obtain ⟨x5, rfl, h4⟩ := hq
      refine ⟨x5, rfl, ?_⟩
      refine a_if_eq (tgt := 63) dX12_besides_22 (by decide) ⟨fun c6 => ?_, fun c6 => ?_⟩
      · refine a_iinc dX12_besides_63 rfl (by decide) rfl ?_
        refine a_goto (tgt := 4) dX12_besides_66 (by decide) ?_
        exact (h4.1 c6)
      · refine a_aload_n dX12_besides_25 rfl rfl ?_
        refine gf_X12_63 dX12_besides_26 ?_
        refine a_iload_n dX12_besides_29 rfl rfl ?_
        refine a_iald rfl rfl (by decide) rfl dX12_besides_30 ⟨(h4.2 c6).1, ?_⟩
        refine a_aload_n dX12_besides_31 rfl rfl ?_
        refine gf_X12_63 dX12_besides_32 ?_
        refine a_iload_n dX12_besides_35 rfl rfl ?_
        refine a_iald rfl rfl (by decide) rfl dX12_besides_36 ⟨(h4.2 c6).2.1, ?_⟩
        refine iv_X12_270 dX12_besides_37 (Nat.le_of_ble_eq_true rfl) (MtX_mono (h4.2 c6).2.2 (fun r m7 hq => ?_))
        obtain ⟨x9, rfl, h8⟩ := hq
        refine ⟨x9, rfl, ?_⟩
        refine a_aload_n dX12_besides_40 rfl rfl ?_
        refine gf_X12_66 dX12_besides_41 ?_
        refine a_iload_n dX12_besides_44 rfl rfl ?_
        refine a_iald rfl rfl (by decide) rfl dX12_besides_45 ⟨h8.1, ?_⟩
        refine a_aload_n dX12_besides_46 rfl rfl ?_
        refine gf_X12_66 dX12_besides_47 ?_
        refine a_iload_n dX12_besides_50 rfl rfl ?_
        refine a_iald rfl rfl (by decide) rfl dX12_besides_51 ⟨h8.2.1, ?_⟩
        refine iv_X12_270 dX12_besides_52 (Nat.le_of_ble_eq_true rfl) (MtX_mono h8.2.2 (fun r m10 hq => ?_))
        obtain ⟨x12, rfl, h11⟩ := hq
        refine ⟨x12, rfl, ?_⟩
        refine a_iadd dX12_besides_55 ?_
        refine a_iconst (k := 1) dX12_besides_56 (n_lit (by decide)) ?_
        refine a_icmp_ne (tgt := 63) dX12_besides_57 (by decide) ⟨fun c13 => ?_, fun c13 => ?_⟩
        · refine a_iinc dX12_besides_63 rfl (by decide) rfl ?_
          refine a_goto (tgt := 4) dX12_besides_66 (by decide) ?_
          exact (h11.1 c13)
        · refine a_iinc dX12_besides_60 rfl (by decide) rfl ?_
          refine a_iinc dX12_besides_63 rfl (by decide) rfl ?_
          refine a_goto (tgt := 4) dX12_besides_66 (by decide) ?_
          exact (h11.2 c13)
set_option maxRecDepth 10000 in
theorem sg_X12_actOf_0 {d : Nat} {sx : Option (List Int)} (a1 : Int) (a2 : Int) (mem : AMem) (Q : Option AV → AMem → Prop) (h : MtX yX12_farFrom cX12_farFrom 2 (some .int) d [vr 12 0, vi a1] mem (fun r m1 => ∃ x3 : Int, r = some (vi x3) ∧ (((m1 12 0 26) ≠ (0 : Int) → ((0 ≤ (0 : Int) ∧ (0 : Int) < 6) ∧ ((0 ≤ (1 : Int) ∧ (1 : Int) < 6) ∧ ((0 ≤ (2 : Int) ∧ (2 : Int) < 6) ∧ ((0 ≤ a1 ∧ a1 < 7) ∧ ((0 ≤ (3 : Int) ∧ (3 : Int) < 6) ∧ (MtX yX12_bitsOf cX12_bitsOf 3 (some .int) d [vi (m1 12 0 36)] (upM (upM (upM (upM m1 1324 0 0 x3) 1324 0 1 (m1 12 0 30)) 1324 0 2 a2) 1324 0 3 (m1 1304 0 a1)) (fun r m5 => ∃ x7 : Int, r = some (vi x7) ∧ ((0 ≤ (4 : Int) ∧ (4 : Int) < 6) ∧ (MtX yX12_besides cX12_besides 4 (some .int) d [vr 12 0, vi a1] (upM m5 1324 0 4 x7) (fun r m8 => ∃ x10 : Int, r = some (vi x10) ∧ ((0 ≤ (5 : Int) ∧ (5 : Int) < 6) ∧ (MtX yX12_gives cX12_gives 4 (some .int) d [vr 12 0, vi 0] (upM m8 1324 0 5 x10) (fun r m11 => ∃ x13 : Int, r = some (vi x13) ∧ (((0 : Int) ≤ (Int.tmod x13 4) → (Q (some (vi (Int.tmod x13 4))) m11)) ∧ (¬ (0 : Int) ≤ (Int.tmod x13 4) → (Q (some (vi (w32 (-(Int.tmod x13 4))))) m11))))))))))))))))) ∧ ((m1 12 0 26) = (0 : Int) → (((4 : Int) ≤ (m1 12 0 30) → (((1 : Int) < x3 → (Q (some (vi 1)) m1)) ∧ (¬ (1 : Int) < x3 → (Q (some (vi 3)) m1)))) ∧ (¬ (4 : Int) ≤ (m1 12 0 30) → (((2 : Int) < x3 → (Q (some (vi 0)) m1)) ∧ (¬ (2 : Int) < x3 → (Q (some (vi 2)) m1))))))))) : Y cX12_actOf 5 RX12 (d + 1) sx 0 [some (vr 12 0), some (vi a1), some (vi a2), none, none] [] mem Q := by
  refine a_aload_n dX12_actOf_0 rfl rfl ?_
  refine a_iload_n dX12_actOf_1 rfl rfl ?_
  refine iv_X12_276 dX12_actOf_2 (Nat.le_of_ble_eq_true rfl) (MtX_mono h (fun r m1 hq => ?_))
  obtain ⟨x3, rfl, h2⟩ := hq
  refine ⟨x3, rfl, ?_⟩
  refine a_istore_n dX12_actOf_5 rfl (by decide) rfl ?_
  refine a_aload_n dX12_actOf_6 rfl rfl ?_
  refine gf_X12_242 (x := m1 12 0 26) rfl dX12_actOf_7 ?_
  refine a_if_ne (tgt := 45) dX12_actOf_10 (by decide) ⟨fun c4 => ?_, fun c4 => ?_⟩
  · refine a_aload_n dX12_actOf_45 rfl rfl ?_
    refine gf_X12_57 dX12_actOf_46 ?_
    refine a_iconst (k := 0) dX12_actOf_49 (n_lit (by decide)) ?_
    refine a_iload_n dX12_actOf_50 rfl rfl ?_
    refine a_iast rfl rfl (by decide) rfl dX12_actOf_51 ⟨(h2.1 c4).1, ?_⟩
    refine a_aload_n dX12_actOf_52 rfl rfl ?_
    refine gf_X12_57 dX12_actOf_53 ?_
    refine a_iconst (k := 1) dX12_actOf_56 (n_lit (by decide)) ?_
    refine a_aload_n dX12_actOf_57 rfl rfl ?_
    refine gf_X12_252 (x := m1 12 0 30) rfl dX12_actOf_58 ?_
    refine a_iast rfl rfl (by decide) rfl dX12_actOf_61 ⟨(h2.1 c4).2.1, ?_⟩
    refine a_aload_n dX12_actOf_62 rfl rfl ?_
    refine gf_X12_57 dX12_actOf_63 ?_
    refine a_iconst (k := 2) dX12_actOf_66 (n_lit (by decide)) ?_
    refine a_iload_n dX12_actOf_67 rfl rfl ?_
    refine a_iast rfl rfl (by decide) rfl dX12_actOf_68 ⟨(h2.1 c4).2.2.1, ?_⟩
    refine a_aload_n dX12_actOf_69 rfl rfl ?_
    refine gf_X12_57 dX12_actOf_70 ?_
    refine a_iconst (k := 3) dX12_actOf_73 (n_lit (by decide)) ?_
    refine a_aload_n dX12_actOf_74 rfl rfl ?_
    refine gf_X12_16 dX12_actOf_75 ?_
    refine a_iload_n dX12_actOf_78 rfl rfl ?_
    refine a_iald rfl rfl (by decide) rfl dX12_actOf_79 ⟨(h2.1 c4).2.2.2.1, ?_⟩
    refine a_iast rfl rfl (by decide) rfl dX12_actOf_80 ⟨(h2.1 c4).2.2.2.2.1, ?_⟩
    refine a_aload_n dX12_actOf_81 rfl rfl ?_
    refine gf_X12_57 dX12_actOf_82 ?_
    refine a_iconst (k := 4) dX12_actOf_85 (n_lit (by decide)) ?_
    refine a_aload_n dX12_actOf_86 rfl rfl ?_
    refine gf_X12_246 (x := m1 12 0 36) rfl dX12_actOf_87 ?_
    refine iv_X12_279 dX12_actOf_90 (Nat.le_of_ble_eq_true rfl) (MtX_mono (h2.1 c4).2.2.2.2.2 (fun r m5 hq => ?_))
    obtain ⟨x7, rfl, h6⟩ := hq
    refine ⟨x7, rfl, ?_⟩
    refine a_iast rfl rfl (by decide) rfl dX12_actOf_93 ⟨h6.1, ?_⟩
    refine a_aload_n dX12_actOf_94 rfl rfl ?_
    refine gf_X12_57 dX12_actOf_95 ?_
    refine a_iconst (k := 5) dX12_actOf_98 (n_lit (by decide)) ?_
    refine a_aload_n dX12_actOf_99 rfl rfl ?_
    refine a_iload_n dX12_actOf_100 rfl rfl ?_
    refine iv_X12_282 dX12_actOf_101 (Nat.le_of_ble_eq_true rfl) (MtX_mono h6.2 (fun r m8 hq => ?_))
    obtain ⟨x10, rfl, h9⟩ := hq
    refine ⟨x10, rfl, ?_⟩
    refine a_iast rfl rfl (by decide) rfl dX12_actOf_104 ⟨h9.1, ?_⟩
    refine a_aload_n dX12_actOf_105 rfl rfl ?_
    refine a_iconst (k := 0) dX12_actOf_106 (n_lit (by decide)) ?_
    refine iv_X12_285 dX12_actOf_107 (Nat.le_of_ble_eq_true rfl) (MtX_mono h9.2 (fun r m11 hq => ?_))
    obtain ⟨x13, rfl, h12⟩ := hq
    refine ⟨x13, rfl, ?_⟩
    refine a_iconst (k := 4) dX12_actOf_110 (n_lit (by decide)) ?_
    refine a_irem dX12_actOf_111 (by decide) ?_
    refine a_istore dX12_actOf_112 (by decide) rfl ?_
    refine a_iload dX12_actOf_114 rfl ?_
    refine a_if_ge (tgt := 125) dX12_actOf_116 (by decide) ⟨fun c14 => ?_, fun c14 => ?_⟩
    · refine a_iload dX12_actOf_125 rfl ?_
      exact a_iret dX12_actOf_127 (h12.1 c14)
    · refine a_iload dX12_actOf_119 rfl ?_
      refine a_ineg dX12_actOf_121 ?_
      refine a_goto (tgt := 127) dX12_actOf_122 (by decide) ?_
      exact a_iret dX12_actOf_127 (h12.2 c14)
  · refine a_aload_n dX12_actOf_13 rfl rfl ?_
    refine gf_X12_252 (x := m1 12 0 30) rfl dX12_actOf_14 ?_
    refine a_iconst (k := 4) dX12_actOf_17 (n_lit (by decide)) ?_
    refine a_icmp_ge (tgt := 34) dX12_actOf_18 (by decide) ⟨fun c15 => ?_, fun c15 => ?_⟩
    · refine a_iload_n dX12_actOf_34 rfl rfl ?_
      refine a_iconst (k := 1) dX12_actOf_35 (n_lit (by decide)) ?_
      refine a_icmp_gt (tgt := 43) dX12_actOf_36 (by decide) ⟨fun c16 => ?_, fun c16 => ?_⟩
      · refine a_iconst (k := 1) dX12_actOf_43 (n_lit (by decide)) ?_
        exact a_iret dX12_actOf_44 (((h2.2 c4).1 c15).1 c16)
      · refine a_iconst (k := 3) dX12_actOf_39 (n_lit (by decide)) ?_
        refine a_goto (tgt := 44) dX12_actOf_40 (by decide) ?_
        exact a_iret dX12_actOf_44 (((h2.2 c4).1 c15).2 c16)
    · refine a_iload_n dX12_actOf_21 rfl rfl ?_
      refine a_iconst (k := 2) dX12_actOf_22 (n_lit (by decide)) ?_
      refine a_icmp_gt (tgt := 30) dX12_actOf_23 (by decide) ⟨fun c17 => ?_, fun c17 => ?_⟩
      · refine a_iconst (k := 0) dX12_actOf_30 (n_lit (by decide)) ?_
        refine a_goto (tgt := 44) dX12_actOf_31 (by decide) ?_
        exact a_iret dX12_actOf_44 (((h2.2 c4).2 c15).1 c17)
      · refine a_iconst (k := 2) dX12_actOf_26 (n_lit (by decide)) ?_
        refine a_goto (tgt := 44) dX12_actOf_27 (by decide) ?_
        exact a_iret dX12_actOf_44 (((h2.2 c4).2 c15).2 c17)
set_option maxRecDepth 10000 in
theorem sg_X12_does_0 {d : Nat} {sx : Option (List Int)} (a1 : Int) (a2 : Int) (a3 : Int) (mem : AMem) (Q : Option AV → AMem → Prop) (h : MtX yX12_isDefender cX12_isDefender 2 (some .boolean) d [vr 12 0, vi a1] mem (fun r m1 => ∃ x3 : Int, r = some (vi x3) ∧ ((x3 = (0 : Int) → (Q (some (vi (-1))) m1)) ∧ (¬ x3 = (0 : Int) → ((0 ≤ a1 ∧ a1 < 7) ∧ (((m1 1305 0 a1) = (0 : Int) → (Q (some (vi (-1))) m1)) ∧ (¬ (m1 1305 0 a1) = (0 : Int) → ((a2 < (0 : Int) → (Q (some (vi (-1))) m1)) ∧ (¬ a2 < (0 : Int) → (((8 : Int) < (w32 (Int.tdiv a2 10)) → (Q (some (vi (-1))) m1)) ∧ (¬ (8 : Int) < (w32 (Int.tdiv a2 10)) → (MtX yX12_isColumn cX12_isColumn 1 (some .boolean) d [vi (Int.tmod a2 10)] m1 (fun r m8 => ∃ x10 : Int, r = some (vi x10) ∧ ((x10 = (0 : Int) → (Q (some (vi (-1))) m8)) ∧ (¬ x10 = (0 : Int) → (MtX yX12_in cX12_in 3 (some .boolean) d [vi a3, vi 0, vi 99] m8 (fun r m12 => ∃ x14 : Int, r = some (vi x14) ∧ ((x14 ≠ (0 : Int) → (MtX yX12_beginRaid cX12_beginRaid 2 none d [vr 12 0] m12 (fun r m16 => r = none ∧ (MtX yX12_actOf cX12_actOf 5 (some .int) d [vr 12 0, vi a1, vi a3] (upM (upM m16 12 0 30 (w32 (Int.tdiv a2 10))) 12 0 29 (Int.tmod a2 10)) (fun r m18 => ∃ x20 : Int, r = some (vi x20) ∧ (Q (some (vi x20)) m18)))))) ∧ (x14 = (0 : Int) → (Q (some (vi (-1))) m12)))))))))))))))))))) : Y cX12_does 4 RX12 (d + 1) sx 0 [some (vr 12 0), some (vi a1), some (vi a2), some (vi a3)] [] mem Q := by
  refine a_aload_n dX12_does_0 rfl rfl ?_
  refine a_iload_n dX12_does_1 rfl rfl ?_
  refine iv_X12_162 dX12_does_2 (Nat.le_of_ble_eq_true rfl) (MtX_mono h (fun r m1 hq => ?_))
  obtain ⟨x3, rfl, h2⟩ := hq
  refine ⟨x3, rfl, ?_⟩
  refine a_if_eq (tgt := 50) dX12_does_5 (by decide) ⟨fun c4 => ?_, fun c4 => ?_⟩
  · refine a_iconst (k := (-1)) dX12_does_50 (n_lit (by decide)) ?_
    exact a_iret dX12_does_51 (h2.1 c4)
  · refine a_aload_n dX12_does_8 rfl rfl ?_
    refine gf_X12_19 dX12_does_9 ?_
    refine a_iload_n dX12_does_12 rfl rfl ?_
    refine a_iald rfl rfl (by decide) rfl dX12_does_13 ⟨(h2.2 c4).1, ?_⟩
    refine a_if_eq (tgt := 50) dX12_does_14 (by decide) ⟨fun c5 => ?_, fun c5 => ?_⟩
    · refine a_iconst (k := (-1)) dX12_does_50 (n_lit (by decide)) ?_
      exact a_iret dX12_does_51 ((h2.2 c4).2.1 c5)
    · refine a_iload_n dX12_does_17 rfl rfl ?_
      refine a_if_lt (tgt := 50) dX12_does_18 (by decide) ⟨fun c6 => ?_, fun c6 => ?_⟩
      · refine a_iconst (k := (-1)) dX12_does_50 (n_lit (by decide)) ?_
        exact a_iret dX12_does_51 (((h2.2 c4).2.2 c5).1 c6)
      · refine a_iload_n dX12_does_21 rfl rfl ?_
        refine a_bipush (k := 10) dX12_does_22 (by decide) (n_lit (by decide)) ?_
        refine a_idiv dX12_does_24 (by decide) ?_
        refine a_bipush (k := 8) dX12_does_25 (by decide) (n_lit (by decide)) ?_
        refine a_icmp_gt (tgt := 50) dX12_does_27 (by decide) ⟨fun c7 => ?_, fun c7 => ?_⟩
        · refine a_iconst (k := (-1)) dX12_does_50 (n_lit (by decide)) ?_
          exact a_iret dX12_does_51 ((((h2.2 c4).2.2 c5).2 c6).1 c7)
        · refine a_iload_n dX12_does_30 rfl rfl ?_
          refine a_bipush (k := 10) dX12_does_31 (by decide) (n_lit (by decide)) ?_
          refine a_irem dX12_does_33 (by decide) ?_
          refine iv_X12_136 dX12_does_34 (Nat.le_of_ble_eq_true rfl) (MtX_mono ((((h2.2 c4).2.2 c5).2 c6).2 c7) (fun r m8 hq => ?_))
          obtain ⟨x10, rfl, h9⟩ := hq
          refine ⟨x10, rfl, ?_⟩
          refine a_if_eq (tgt := 50) dX12_does_37 (by decide) ⟨fun c11 => ?_, fun c11 => ?_⟩
          · refine a_iconst (k := (-1)) dX12_does_50 (n_lit (by decide)) ?_
            exact a_iret dX12_does_51 (h9.1 c11)
          · refine a_iload_n dX12_does_40 rfl rfl ?_
            refine a_iconst (k := 0) dX12_does_41 (n_lit (by decide)) ?_
            refine a_bipush (k := 99) dX12_does_42 (by decide) (n_lit (by decide)) ?_
            refine iv_X12_128 dX12_does_44 (Nat.le_of_ble_eq_true rfl) (MtX_mono (h9.2 c11) (fun r m12 hq => ?_))
            obtain ⟨x14, rfl, h13⟩ := hq
            refine ⟨x14, rfl, ?_⟩
            refine a_if_ne (tgt := 52) dX12_does_47 (by decide) ⟨fun c15 => ?_, fun c15 => ?_⟩
            · refine a_aload_n dX12_does_52 rfl rfl ?_
              refine iv_X12_288 dX12_does_53 (Nat.le_of_ble_eq_true rfl) (MtX_mono (h13.1 c15) (fun r m16 hq => ?_))
              obtain ⟨rfl, h17⟩ := hq
              refine ⟨rfl, ?_⟩
              refine a_aload_n dX12_does_56 rfl rfl ?_
              refine a_iload_n dX12_does_57 rfl rfl ?_
              refine a_bipush (k := 10) dX12_does_58 (by decide) (n_lit (by decide)) ?_
              refine a_idiv dX12_does_60 (by decide) ?_
              refine pf_X12_252 dX12_does_61 ?_
              refine a_aload_n dX12_does_64 rfl rfl ?_
              refine a_iload_n dX12_does_65 rfl rfl ?_
              refine a_bipush (k := 10) dX12_does_66 (by decide) (n_lit (by decide)) ?_
              refine a_irem dX12_does_68 (by decide) ?_
              refine pf_X12_249 dX12_does_69 ?_
              refine a_aload_n dX12_does_72 rfl rfl ?_
              refine a_iload_n dX12_does_73 rfl rfl ?_
              refine a_iload_n dX12_does_74 rfl rfl ?_
              refine iv_X12_291 dX12_does_75 (Nat.le_of_ble_eq_true rfl) (MtX_mono h17 (fun r m18 hq => ?_))
              obtain ⟨x20, rfl, h19⟩ := hq
              refine ⟨x20, rfl, ?_⟩
              exact a_iret dX12_does_78 h19
            · refine a_iconst (k := (-1)) dX12_does_50 (n_lit (by decide)) ?_
              exact a_iret dX12_does_51 (h13.2 c15)
set_option maxRecDepth 10000 in
theorem sg_X12_movesTo_0 {d : Nat} {sx : Option (List Int)} (a1 : Int) (mem : AMem) (Q : Option AV → AMem → Prop) (h : (a1 = 1 → (((8 : Int) ≤ (mem 12 0 30) → (Q none mem)) ∧ (¬ (8 : Int) ≤ (mem 12 0 30) → (Q none (upM mem 12 0 30 (w32 ((mem 12 0 30) + 1))))))) ∧ (a1 = 2 → (((mem 12 0 30) ≤ (0 : Int) → (Q none mem)) ∧ (¬ (mem 12 0 30) ≤ (0 : Int) → (Q none (upM mem 12 0 30 (w32 ((mem 12 0 30) - 1))))))) ∧ (a1 = 3 → (((mem 12 0 29) ≤ (0 : Int) → (Q none mem)) ∧ (¬ (mem 12 0 29) ≤ (0 : Int) → (Q none (upM mem 12 0 29 (w32 ((mem 12 0 29) - 1))))))) ∧ (a1 = 4 → (((8 : Int) ≤ (mem 12 0 29) → (Q none mem)) ∧ (¬ (8 : Int) ≤ (mem 12 0 29) → (Q none (upM mem 12 0 29 (w32 ((mem 12 0 29) + 1))))))) ∧ (¬ (1 ≤ a1 ∧ a1 ≤ 4) → (Q none mem))) : Y cX12_movesTo 2 RX12 (d + 1) sx 0 [some (vr 12 0), some (vi a1)] [] mem Q := by
  refine a_iload_n dX12_movesTo_0 rfl rfl ?_
  refine a_table dX12_movesTo_1 (fun z => if z = 1 then 32 else if z = 2 then 54 else if z = 3 then 74 else if z = 4 then 94 else 0) 116 (by decide) (by decide) (by decide) ⟨fun e1a e1b => ?_, fun e6 => ?_⟩
  · rcases (by omega : a1 = 1 ∨ a1 = 2 ∨ a1 = 3 ∨ a1 = 4) with e1 | e1 | e1 | e1
    · refine Y_at (pc := 32) (by rw [e1]; rfl) ?_
      refine a_aload_n dX12_movesTo_32 rfl rfl ?_
      refine gf_X12_252 (x := mem 12 0 30) rfl dX12_movesTo_33 ?_
      refine a_bipush (k := 8) dX12_movesTo_36 (by decide) (n_lit (by decide)) ?_
      refine a_icmp_ge (tgt := 116) dX12_movesTo_38 (by decide) ⟨fun c2 => ?_, fun c2 => ?_⟩
      · exact a_vret dX12_movesTo_116 ((h.1 e1).1 c2)
      · refine a_aload_n dX12_movesTo_41 rfl rfl ?_
        refine a_dup dX12_movesTo_42 rfl ?_
        refine gf_X12_252 (x := mem 12 0 30) rfl dX12_movesTo_43 ?_
        refine a_iconst (k := 1) dX12_movesTo_46 (n_lit (by decide)) ?_
        refine a_iadd dX12_movesTo_47 ?_
        refine pf_X12_252 dX12_movesTo_48 ?_
        refine a_goto (tgt := 116) dX12_movesTo_51 (by decide) ?_
        exact a_vret dX12_movesTo_116 ((h.1 e1).2 c2)
    · refine Y_at (pc := 54) (by rw [e1]; rfl) ?_
      refine a_aload_n dX12_movesTo_54 rfl rfl ?_
      refine gf_X12_252 (x := mem 12 0 30) rfl dX12_movesTo_55 ?_
      refine a_if_le (tgt := 116) dX12_movesTo_58 (by decide) ⟨fun c3 => ?_, fun c3 => ?_⟩
      · exact a_vret dX12_movesTo_116 ((h.2.1 e1).1 c3)
      · refine a_aload_n dX12_movesTo_61 rfl rfl ?_
        refine a_dup dX12_movesTo_62 rfl ?_
        refine gf_X12_252 (x := mem 12 0 30) rfl dX12_movesTo_63 ?_
        refine a_iconst (k := 1) dX12_movesTo_66 (n_lit (by decide)) ?_
        refine a_isub dX12_movesTo_67 ?_
        refine pf_X12_252 dX12_movesTo_68 ?_
        refine a_goto (tgt := 116) dX12_movesTo_71 (by decide) ?_
        exact a_vret dX12_movesTo_116 ((h.2.1 e1).2 c3)
    · refine Y_at (pc := 74) (by rw [e1]; rfl) ?_
      refine a_aload_n dX12_movesTo_74 rfl rfl ?_
      refine gf_X12_249 (x := mem 12 0 29) rfl dX12_movesTo_75 ?_
      refine a_if_le (tgt := 116) dX12_movesTo_78 (by decide) ⟨fun c4 => ?_, fun c4 => ?_⟩
      · exact a_vret dX12_movesTo_116 ((h.2.2.1 e1).1 c4)
      · refine a_aload_n dX12_movesTo_81 rfl rfl ?_
        refine a_dup dX12_movesTo_82 rfl ?_
        refine gf_X12_249 (x := mem 12 0 29) rfl dX12_movesTo_83 ?_
        refine a_iconst (k := 1) dX12_movesTo_86 (n_lit (by decide)) ?_
        refine a_isub dX12_movesTo_87 ?_
        refine pf_X12_249 dX12_movesTo_88 ?_
        refine a_goto (tgt := 116) dX12_movesTo_91 (by decide) ?_
        exact a_vret dX12_movesTo_116 ((h.2.2.1 e1).2 c4)
    · refine Y_at (pc := 94) (by rw [e1]; rfl) ?_
      refine a_aload_n dX12_movesTo_94 rfl rfl ?_
      refine gf_X12_249 (x := mem 12 0 29) rfl dX12_movesTo_95 ?_
      refine a_bipush (k := 8) dX12_movesTo_98 (by decide) (n_lit (by decide)) ?_
      refine a_icmp_ge (tgt := 116) dX12_movesTo_100 (by decide) ⟨fun c5 => ?_, fun c5 => ?_⟩
      · exact a_vret dX12_movesTo_116 ((h.2.2.2.1 e1).1 c5)
      · refine a_aload_n dX12_movesTo_103 rfl rfl ?_
        refine a_dup dX12_movesTo_104 rfl ?_
        refine gf_X12_249 (x := mem 12 0 29) rfl dX12_movesTo_105 ?_
        refine a_iconst (k := 1) dX12_movesTo_108 (n_lit (by decide)) ?_
        refine a_iadd dX12_movesTo_109 ?_
        refine pf_X12_249 dX12_movesTo_110 ?_
        refine a_goto (tgt := 116) dX12_movesTo_113 (by decide) ?_
        exact a_vret dX12_movesTo_116 ((h.2.2.2.1 e1).2 c5)
  · exact a_vret dX12_movesTo_116 (h.2.2.2.2 e6)
set_option maxRecDepth 10000 in
theorem sg_X12_comesNearer_0 {d : Nat} {sx : Option (List Int)} (a1 : Int) (mem : AMem) (Q : Option AV → AMem → Prop) (h : (0 ≤ a1 ∧ a1 < 7) ∧ ((0 ≤ a1 ∧ a1 < 7) ∧ (((mem 1327 0 a1) = (mem 12 0 29) → (((mem 1328 0 a1) = (mem 12 0 30) → (Y cX12_comesNearer 4 RX12 (d + 1) sx 65 [some (vr 12 0), some (vi a1), some (vi (mem 1327 0 a1)), some (vi (mem 1328 0 a1))] [] mem Q)) ∧ (¬ (mem 1328 0 a1) = (mem 12 0 30) → (((mem 12 0 30) ≤ (mem 1328 0 a1) → (Y cX12_comesNearer 4 RX12 (d + 1) sx 65 [some (vr 12 0), some (vi a1), some (vi (mem 1327 0 a1)), some (vi (w32 ((mem 1328 0 a1) + (-1))))] [] mem Q)) ∧ (¬ (mem 12 0 30) ≤ (mem 1328 0 a1) → (Y cX12_comesNearer 4 RX12 (d + 1) sx 65 [some (vr 12 0), some (vi a1), some (vi (mem 1327 0 a1)), some (vi (w32 ((mem 1328 0 a1) + 1)))] [] mem Q)))))) ∧ (¬ (mem 1327 0 a1) = (mem 12 0 29) → (((mem 12 0 29) ≤ (mem 1327 0 a1) → (Y cX12_comesNearer 4 RX12 (d + 1) sx 65 [some (vr 12 0), some (vi a1), some (vi (w32 ((mem 1327 0 a1) + (-1)))), some (vi (mem 1328 0 a1))] [] mem Q)) ∧ (¬ (mem 12 0 29) ≤ (mem 1327 0 a1) → (Y cX12_comesNearer 4 RX12 (d + 1) sx 65 [some (vr 12 0), some (vi a1), some (vi (w32 ((mem 1327 0 a1) + 1))), some (vi (mem 1328 0 a1))] [] mem Q))))))) : Y cX12_comesNearer 4 RX12 (d + 1) sx 0 [some (vr 12 0), some (vi a1), none, none] [] mem Q := by
  refine a_aload_n dX12_comesNearer_0 rfl rfl ?_
  refine gf_X12_63 dX12_comesNearer_1 ?_
  refine a_iload_n dX12_comesNearer_4 rfl rfl ?_
  refine a_iald rfl rfl (by decide) rfl dX12_comesNearer_5 ⟨h.1, ?_⟩
  refine a_istore_n dX12_comesNearer_6 rfl (by decide) rfl ?_
  refine a_aload_n dX12_comesNearer_7 rfl rfl ?_
  refine gf_X12_66 dX12_comesNearer_8 ?_
  refine a_iload_n dX12_comesNearer_11 rfl rfl ?_
  refine a_iald rfl rfl (by decide) rfl dX12_comesNearer_12 ⟨h.2.1, ?_⟩
  refine a_istore_n dX12_comesNearer_13 rfl (by decide) rfl ?_
  refine a_iload_n dX12_comesNearer_14 rfl rfl ?_
  refine a_aload_n dX12_comesNearer_15 rfl rfl ?_
  refine gf_X12_249 (x := mem 12 0 29) rfl dX12_comesNearer_16 ?_
  refine a_icmp_eq (tgt := 41) dX12_comesNearer_19 (by decide) ⟨fun c1 => ?_, fun c1 => ?_⟩
  · refine a_iload_n dX12_comesNearer_41 rfl rfl ?_
    refine a_aload_n dX12_comesNearer_42 rfl rfl ?_
    refine gf_X12_252 (x := mem 12 0 30) rfl dX12_comesNearer_43 ?_
    refine a_icmp_eq (tgt := 65) dX12_comesNearer_46 (by decide) ⟨fun c2 => ?_, fun c2 => ?_⟩
    · exact ((h.2.2.1 c1).1 c2)
    · refine a_iload_n dX12_comesNearer_49 rfl rfl ?_
      refine a_iload_n dX12_comesNearer_50 rfl rfl ?_
      refine a_aload_n dX12_comesNearer_51 rfl rfl ?_
      refine gf_X12_252 (x := mem 12 0 30) rfl dX12_comesNearer_52 ?_
      refine a_icmp_ge (tgt := 62) dX12_comesNearer_55 (by decide) ⟨fun c3 => ?_, fun c3 => ?_⟩
      · refine a_iconst (k := (-1)) dX12_comesNearer_62 (n_lit (by decide)) ?_
        refine a_iadd dX12_comesNearer_63 ?_
        refine a_istore_n dX12_comesNearer_64 rfl (by decide) rfl ?_
        exact (((h.2.2.1 c1).2 c2).1 c3)
      · refine a_iconst (k := 1) dX12_comesNearer_58 (n_lit (by decide)) ?_
        refine a_goto (tgt := 63) dX12_comesNearer_59 (by decide) ?_
        refine a_iadd dX12_comesNearer_63 ?_
        refine a_istore_n dX12_comesNearer_64 rfl (by decide) rfl ?_
        exact (((h.2.2.1 c1).2 c2).2 c3)
  · refine a_iload_n dX12_comesNearer_22 rfl rfl ?_
    refine a_iload_n dX12_comesNearer_23 rfl rfl ?_
    refine a_aload_n dX12_comesNearer_24 rfl rfl ?_
    refine gf_X12_249 (x := mem 12 0 29) rfl dX12_comesNearer_25 ?_
    refine a_icmp_ge (tgt := 35) dX12_comesNearer_28 (by decide) ⟨fun c4 => ?_, fun c4 => ?_⟩
    · refine a_iconst (k := (-1)) dX12_comesNearer_35 (n_lit (by decide)) ?_
      refine a_iadd dX12_comesNearer_36 ?_
      refine a_istore_n dX12_comesNearer_37 rfl (by decide) rfl ?_
      refine a_goto (tgt := 65) dX12_comesNearer_38 (by decide) ?_
      exact ((h.2.2.2 c1).1 c4)
    · refine a_iconst (k := 1) dX12_comesNearer_31 (n_lit (by decide)) ?_
      refine a_goto (tgt := 36) dX12_comesNearer_32 (by decide) ?_
      refine a_iadd dX12_comesNearer_36 ?_
      refine a_istore_n dX12_comesNearer_37 rfl (by decide) rfl ?_
      refine a_goto (tgt := 65) dX12_comesNearer_38 (by decide) ?_
      exact ((h.2.2.2 c1).2 c4)
set_option maxRecDepth 10000 in
theorem sg_X12_comesNearer_65 {d : Nat} {sx : Option (List Int)} (a1 : Int) (a2 : Int) (a3 : Int) (mem : AMem) (Q : Option AV → AMem → Prop) (h : (a3 = (0 : Int) → (Q none mem)) ∧ (¬ a3 = (0 : Int) → ((a2 ≠ (mem 12 0 29) → ((0 ≤ a1 ∧ a1 < 7) ∧ ((0 ≤ a1 ∧ a1 < 7) ∧ (Q none (upM (upM mem 1327 0 a1 a2) 1328 0 a1 a3))))) ∧ (a2 = (mem 12 0 29) → ((a3 ≠ (mem 12 0 30) → ((0 ≤ a1 ∧ a1 < 7) ∧ ((0 ≤ a1 ∧ a1 < 7) ∧ (Q none (upM (upM mem 1327 0 a1 a2) 1328 0 a1 a3))))) ∧ (a3 = (mem 12 0 30) → (Q none mem))))))) : Y cX12_comesNearer 4 RX12 (d + 1) sx 65 [some (vr 12 0), some (vi a1), some (vi a2), some (vi a3)] [] mem Q := by
  refine a_iload_n dX12_comesNearer_65 rfl rfl ?_
  refine a_if_eq (tgt := 85) dX12_comesNearer_66 (by decide) ⟨fun c1 => ?_, fun c1 => ?_⟩
  · exact a_vret dX12_comesNearer_85 (h.1 c1)
  · refine a_iload_n dX12_comesNearer_69 rfl rfl ?_
    refine a_aload_n dX12_comesNearer_70 rfl rfl ?_
    refine gf_X12_249 (x := mem 12 0 29) rfl dX12_comesNearer_71 ?_
    refine a_icmp_ne (tgt := 86) dX12_comesNearer_74 (by decide) ⟨fun c2 => ?_, fun c2 => ?_⟩
    · refine a_aload_n dX12_comesNearer_86 rfl rfl ?_
      refine gf_X12_63 dX12_comesNearer_87 ?_
      refine a_iload_n dX12_comesNearer_90 rfl rfl ?_
      refine a_iload_n dX12_comesNearer_91 rfl rfl ?_
      refine a_iast rfl rfl (by decide) rfl dX12_comesNearer_92 ⟨((h.2 c1).1 c2).1, ?_⟩
      refine a_aload_n dX12_comesNearer_93 rfl rfl ?_
      refine gf_X12_66 dX12_comesNearer_94 ?_
      refine a_iload_n dX12_comesNearer_97 rfl rfl ?_
      refine a_iload_n dX12_comesNearer_98 rfl rfl ?_
      refine a_iast rfl rfl (by decide) rfl dX12_comesNearer_99 ⟨((h.2 c1).1 c2).2.1, ?_⟩
      exact a_vret dX12_comesNearer_100 ((h.2 c1).1 c2).2.2
    · refine a_iload_n dX12_comesNearer_77 rfl rfl ?_
      refine a_aload_n dX12_comesNearer_78 rfl rfl ?_
      refine gf_X12_252 (x := mem 12 0 30) rfl dX12_comesNearer_79 ?_
      refine a_icmp_ne (tgt := 86) dX12_comesNearer_82 (by decide) ⟨fun c3 => ?_, fun c3 => ?_⟩
      · refine a_aload_n dX12_comesNearer_86 rfl rfl ?_
        refine gf_X12_63 dX12_comesNearer_87 ?_
        refine a_iload_n dX12_comesNearer_90 rfl rfl ?_
        refine a_iload_n dX12_comesNearer_91 rfl rfl ?_
        refine a_iast rfl rfl (by decide) rfl dX12_comesNearer_92 ⟨(((h.2 c1).2 c2).1 c3).1, ?_⟩
        refine a_aload_n dX12_comesNearer_93 rfl rfl ?_
        refine gf_X12_66 dX12_comesNearer_94 ?_
        refine a_iload_n dX12_comesNearer_97 rfl rfl ?_
        refine a_iload_n dX12_comesNearer_98 rfl rfl ?_
        refine a_iast rfl rfl (by decide) rfl dX12_comesNearer_99 ⟨(((h.2 c1).2 c2).1 c3).2.1, ?_⟩
        exact a_vret dX12_comesNearer_100 (((h.2 c1).2 c2).1 c3).2.2
      · exact a_vret dX12_comesNearer_85 (((h.2 c1).2 c2).2 c3)
set_option maxRecDepth 10000 in
theorem sg_X12_actsNow_0 {d : Nat} {sx : Option (List Int)} (a1 : Int) (mem : AMem) (Q : Option AV → AMem → Prop) (h : MtX yX12_actOf cX12_actOf 5 (some .int) d [vr 12 0, vi a1, vi (mem 12 0 31)] mem (fun r m1 => ∃ x3 : Int, r = some (vi x3) ∧ ((x3 ≠ (1 : Int) → (Y cX12_actsNow 3 RX12 (d + 1) sx 20 [some (vr 12 0), some (vi a1), some (vi x3)] [] m1 Q)) ∧ (x3 = (1 : Int) → (MtX yX12_comesNearer cX12_comesNearer 4 none d [vr 12 0, vi a1] m1 (fun r m5 => r = none ∧ (Y cX12_actsNow 3 RX12 (d + 1) sx 20 [some (vr 12 0), some (vi a1), some (vi x3)] [] m5 Q))))))) : Y cX12_actsNow 3 RX12 (d + 1) sx 0 [some (vr 12 0), some (vi a1), none] [] mem Q := by
  refine a_aload_n dX12_actsNow_0 rfl rfl ?_
  refine a_iload_n dX12_actsNow_1 rfl rfl ?_
  refine a_aload_n dX12_actsNow_2 rfl rfl ?_
  refine gf_X12_255 (x := mem 12 0 31) rfl dX12_actsNow_3 ?_
  refine iv_X12_291 dX12_actsNow_6 (Nat.le_of_ble_eq_true rfl) (MtX_mono h (fun r m1 hq => ?_))
  obtain ⟨x3, rfl, h2⟩ := hq
  refine ⟨x3, rfl, ?_⟩
  refine a_istore_n dX12_actsNow_9 rfl (by decide) rfl ?_
  refine a_iload_n dX12_actsNow_10 rfl rfl ?_
  refine a_iconst (k := 1) dX12_actsNow_11 (n_lit (by decide)) ?_
  refine a_icmp_ne (tgt := 20) dX12_actsNow_12 (by decide) ⟨fun c4 => ?_, fun c4 => ?_⟩
  · exact (h2.1 c4)
  · refine a_aload_n dX12_actsNow_15 rfl rfl ?_
    refine a_iload_n dX12_actsNow_16 rfl rfl ?_
    refine iv_X12_294 dX12_actsNow_17 (Nat.le_of_ble_eq_true rfl) (MtX_mono (h2.2 c4) (fun r m5 hq => ?_))
    obtain ⟨rfl, h6⟩ := hq
    refine ⟨rfl, ?_⟩
    exact h6
set_option maxRecDepth 10000 in
theorem sg_X12_actsNow_20 {d : Nat} {sx : Option (List Int)} (a1 : Int) (a2 : Int) (mem : AMem) (Q : Option AV → AMem → Prop) (h : (a2 ≠ (2 : Int) → (Y cX12_actsNow 3 RX12 (d + 1) sx 46 [some (vr 12 0), some (vi a1), some (vi a2)] [] mem Q)) ∧ (a2 = (2 : Int) → ((0 ≤ a1 ∧ a1 < 7) ∧ (((8 : Int) ≤ (mem 1328 0 a1) → (Y cX12_actsNow 3 RX12 (d + 1) sx 46 [some (vr 12 0), some (vi a1), some (vi a2)] [] mem Q)) ∧ (¬ (8 : Int) ≤ (mem 1328 0 a1) → ((0 ≤ a1 ∧ a1 < 7) ∧ ((0 ≤ a1 ∧ a1 < 7) ∧ (Y cX12_actsNow 3 RX12 (d + 1) sx 46 [some (vr 12 0), some (vi a1), some (vi a2)] [] (upM mem 1328 0 a1 (w32 ((mem 1328 0 a1) + 1))) Q)))))))) : Y cX12_actsNow 3 RX12 (d + 1) sx 20 [some (vr 12 0), some (vi a1), some (vi a2)] [] mem Q := by
  refine a_iload_n dX12_actsNow_20 rfl rfl ?_
  refine a_iconst (k := 2) dX12_actsNow_21 (n_lit (by decide)) ?_
  refine a_icmp_ne (tgt := 46) dX12_actsNow_22 (by decide) ⟨fun c1 => ?_, fun c1 => ?_⟩
  · exact (h.1 c1)
  · refine a_aload_n dX12_actsNow_25 rfl rfl ?_
    refine gf_X12_66 dX12_actsNow_26 ?_
    refine a_iload_n dX12_actsNow_29 rfl rfl ?_
    refine a_iald rfl rfl (by decide) rfl dX12_actsNow_30 ⟨(h.2 c1).1, ?_⟩
    refine a_bipush (k := 8) dX12_actsNow_31 (by decide) (n_lit (by decide)) ?_
    refine a_icmp_ge (tgt := 46) dX12_actsNow_33 (by decide) ⟨fun c2 => ?_, fun c2 => ?_⟩
    · exact ((h.2 c1).2.1 c2)
    · refine a_aload_n dX12_actsNow_36 rfl rfl ?_
      refine gf_X12_66 dX12_actsNow_37 ?_
      refine a_iload_n dX12_actsNow_40 rfl rfl ?_
      refine a_dup2 dX12_actsNow_41 rfl rfl ?_
      refine a_iald rfl rfl (by decide) rfl dX12_actsNow_42 ⟨((h.2 c1).2.2 c2).1, ?_⟩
      refine a_iconst (k := 1) dX12_actsNow_43 (n_lit (by decide)) ?_
      refine a_iadd dX12_actsNow_44 ?_
      refine a_iast rfl rfl (by decide) rfl dX12_actsNow_45 ⟨((h.2 c1).2.2 c2).2.1, ?_⟩
      exact ((h.2 c1).2.2 c2).2.2
set_option maxRecDepth 10000 in
theorem sg_X12_actsNow_46 {d : Nat} {sx : Option (List Int)} (a1 : Int) (a2 : Int) (mem : AMem) (Q : Option AV → AMem → Prop) (h : (a2 ≠ (3 : Int) → (Q none mem)) ∧ (a2 = (3 : Int) → (MtX yX12_farFrom cX12_farFrom 2 (some .int) d [vr 12 0, vi a1] mem (fun r m2 => ∃ x4 : Int, r = some (vi x4) ∧ (((1 : Int) < x4 → (Q none m2)) ∧ (¬ (1 : Int) < x4 → (((m2 12 0 30) < (1 : Int) → (Q none m2)) ∧ (¬ (m2 12 0 30) < (1 : Int) → (Q none (upM m2 12 0 35 (or_32 (m2 12 0 35) (shl32 1 a1)))))))))))) : Y cX12_actsNow 3 RX12 (d + 1) sx 46 [some (vr 12 0), some (vi a1), some (vi a2)] [] mem Q := by
  refine a_iload_n dX12_actsNow_46 rfl rfl ?_
  refine a_iconst (k := 3) dX12_actsNow_47 (n_lit (by decide)) ?_
  refine a_icmp_ne (tgt := 80) dX12_actsNow_48 (by decide) ⟨fun c1 => ?_, fun c1 => ?_⟩
  · exact a_vret dX12_actsNow_80 (h.1 c1)
  · refine a_aload_n dX12_actsNow_51 rfl rfl ?_
    refine a_iload_n dX12_actsNow_52 rfl rfl ?_
    refine iv_X12_276 dX12_actsNow_53 (Nat.le_of_ble_eq_true rfl) (MtX_mono (h.2 c1) (fun r m2 hq => ?_))
    obtain ⟨x4, rfl, h3⟩ := hq
    refine ⟨x4, rfl, ?_⟩
    refine a_iconst (k := 1) dX12_actsNow_56 (n_lit (by decide)) ?_
    refine a_icmp_gt (tgt := 80) dX12_actsNow_57 (by decide) ⟨fun c5 => ?_, fun c5 => ?_⟩
    · exact a_vret dX12_actsNow_80 (h3.1 c5)
    · refine a_aload_n dX12_actsNow_60 rfl rfl ?_
      refine gf_X12_252 (x := m2 12 0 30) rfl dX12_actsNow_61 ?_
      refine a_iconst (k := 1) dX12_actsNow_64 (n_lit (by decide)) ?_
      refine a_icmp_lt (tgt := 80) dX12_actsNow_65 (by decide) ⟨fun c6 => ?_, fun c6 => ?_⟩
      · exact a_vret dX12_actsNow_80 ((h3.2 c5).1 c6)
      · refine a_aload_n dX12_actsNow_68 rfl rfl ?_
        refine a_dup dX12_actsNow_69 rfl ?_
        refine gf_X12_267 (x := m2 12 0 35) rfl dX12_actsNow_70 ?_
        refine a_iconst (k := 1) dX12_actsNow_73 (n_lit (by decide)) ?_
        refine a_iload_n dX12_actsNow_74 rfl rfl ?_
        refine a_ishl dX12_actsNow_75 ?_
        refine a_ior dX12_actsNow_76 ?_
        refine pf_X12_267 dX12_actsNow_77 ?_
        exact a_vret dX12_actsNow_80 ((h3.2 c5).2 c6)
set_option maxRecDepth 10000 in
theorem sg_X12_strongNow_0 {d : Nat} {sx : Option (List Int)}  (mem : AMem) (Q : Option AV → AMem → Prop) (h : Y cX12_strongNow 3 RX12 (d + 1) sx 4 [some (vr 12 0), some (vi 0), some (vi 0)] [] mem Q) : Y cX12_strongNow 3 RX12 (d + 1) sx 0 [some (vr 12 0), none, none] [] mem Q := by
  refine a_iconst (k := 0) dX12_strongNow_0 (n_lit (by decide)) ?_
  refine a_istore_n dX12_strongNow_1 rfl (by decide) rfl ?_
  refine a_iconst (k := 0) dX12_strongNow_2 (n_lit (by decide)) ?_
  refine a_istore_n dX12_strongNow_3 rfl (by decide) rfl ?_
  exact h
set_option maxRecDepth 10000 in
theorem sg_X12_strongNow_4 {d : Nat} {sx : Option (List Int)} (a1 : Int) (a2 : Int) (mem : AMem) (Q : Option AV → AMem → Prop) (h : ((mem 12 0 1) ≤ a2 → (Q (some (vi a1)) mem)) ∧ (¬ (mem 12 0 1) ≤ a2 → (((an32 (shr32 (mem 12 0 35) a2) 1) ≠ (1 : Int) → (Y cX12_strongNow 3 RX12 (d + 1) sx 4 [some (vr 12 0), some (vi a1), some (vi (w32 (a2 + 1)))] [] mem Q)) ∧ ((an32 (shr32 (mem 12 0 35) a2) 1) = (1 : Int) → ((0 ≤ a2 ∧ a2 < 7) ∧ (Y cX12_strongNow 3 RX12 (d + 1) sx 4 [some (vr 12 0), some (vi (w32 (a1 + (mem 1304 0 a2)))), some (vi (w32 (a2 + 1)))] [] mem Q)))))) : Y cX12_strongNow 3 RX12 (d + 1) sx 4 [some (vr 12 0), some (vi a1), some (vi a2)] [] mem Q := by
  refine a_iload_n dX12_strongNow_4 rfl rfl ?_
  refine a_aload_n dX12_strongNow_5 rfl rfl ?_
  refine gf_X12_125 (x := mem 12 0 1) rfl dX12_strongNow_6 ?_
  refine a_icmp_ge (tgt := 39) dX12_strongNow_9 (by decide) ⟨fun c1 => ?_, fun c1 => ?_⟩
  · refine a_iload_n dX12_strongNow_39 rfl rfl ?_
    exact a_iret dX12_strongNow_40 (h.1 c1)
  · refine a_aload_n dX12_strongNow_12 rfl rfl ?_
    refine gf_X12_267 (x := mem 12 0 35) rfl dX12_strongNow_13 ?_
    refine a_iload_n dX12_strongNow_16 rfl rfl ?_
    refine a_ishr dX12_strongNow_17 ?_
    refine a_iconst (k := 1) dX12_strongNow_18 (n_lit (by decide)) ?_
    refine a_iand dX12_strongNow_19 ?_
    refine a_iconst (k := 1) dX12_strongNow_20 (n_lit (by decide)) ?_
    refine a_icmp_ne (tgt := 33) dX12_strongNow_21 (by decide) ⟨fun c2 => ?_, fun c2 => ?_⟩
    · refine a_iinc dX12_strongNow_33 rfl (by decide) rfl ?_
      refine a_goto (tgt := 4) dX12_strongNow_36 (by decide) ?_
      exact ((h.2 c1).1 c2)
    · refine a_iload_n dX12_strongNow_24 rfl rfl ?_
      refine a_aload_n dX12_strongNow_25 rfl rfl ?_
      refine gf_X12_16 dX12_strongNow_26 ?_
      refine a_iload_n dX12_strongNow_29 rfl rfl ?_
      refine a_iald rfl rfl (by decide) rfl dX12_strongNow_30 ⟨((h.2 c1).2 c2).1, ?_⟩
      refine a_iadd dX12_strongNow_31 ?_
      refine a_istore_n dX12_strongNow_32 rfl (by decide) rfl ?_
      refine a_iinc dX12_strongNow_33 rfl (by decide) rfl ?_
      refine a_goto (tgt := 4) dX12_strongNow_36 (by decide) ?_
      exact ((h.2 c1).2 c2).2
set_option maxRecDepth 10000 in
theorem sg_X12_goSecond_0 {d : Nat} {sx : Option (List Int)} (a1 : Int) (mem : AMem) (Q : Option AV → AMem → Prop) (h : MtX yX12_movesTo cX12_movesTo 2 none d [vr 12 0, vi a1] mem (fun r m1 => r = none ∧ (((m1 12 0 30) ≠ (0 : Int) → (((m1 12 0 30) ≤ (m1 12 0 34) → (Y cX12_goSecond 4 RX12 (d + 1) sx 63 [some (vr 12 0), some (vi a1), some (vi (mem 12 0 30)), some (vi 0)] [] (upM m1 12 0 35 0) Q)) ∧ (¬ (m1 12 0 30) ≤ (m1 12 0 34) → (Y cX12_goSecond 4 RX12 (d + 1) sx 63 [some (vr 12 0), some (vi a1), some (vi (mem 12 0 30)), some (vi 0)] [] (upM (upM m1 12 0 35 0) 12 0 34 (m1 12 0 30)) Q)))) ∧ ((m1 12 0 30) = (0 : Int) → (((mem 12 0 30) ≤ (0 : Int) → (((m1 12 0 30) ≤ (m1 12 0 34) → (Y cX12_goSecond 4 RX12 (d + 1) sx 63 [some (vr 12 0), some (vi a1), some (vi (mem 12 0 30)), some (vi 0)] [] (upM m1 12 0 35 0) Q)) ∧ (¬ (m1 12 0 30) ≤ (m1 12 0 34) → (Y cX12_goSecond 4 RX12 (d + 1) sx 63 [some (vr 12 0), some (vi a1), some (vi (mem 12 0 30)), some (vi 0)] [] (upM (upM m1 12 0 35 0) 12 0 34 (m1 12 0 30)) Q)))) ∧ (¬ (mem 12 0 30) ≤ (0 : Int) → (Q none (upM (upM (upM m1 12 0 35 0) 12 0 32 1) 12 0 31 (w32 ((m1 12 0 31) + 1)))))))))) : Y cX12_goSecond 4 RX12 (d + 1) sx 0 [some (vr 12 0), some (vi a1), none, none] [] mem Q := by
  refine a_aload_n dX12_goSecond_0 rfl rfl ?_
  refine gf_X12_252 (x := mem 12 0 30) rfl dX12_goSecond_1 ?_
  refine a_istore_n dX12_goSecond_4 rfl (by decide) rfl ?_
  refine a_aload_n dX12_goSecond_5 rfl rfl ?_
  refine a_iload_n dX12_goSecond_6 rfl rfl ?_
  refine iv_X12_298 dX12_goSecond_7 (Nat.le_of_ble_eq_true rfl) (MtX_mono h (fun r m1 hq => ?_))
  obtain ⟨rfl, h2⟩ := hq
  refine ⟨rfl, ?_⟩
  refine a_aload_n dX12_goSecond_10 rfl rfl ?_
  refine a_iconst (k := 0) dX12_goSecond_11 (n_lit (by decide)) ?_
  refine pf_X12_267 dX12_goSecond_12 ?_
  refine a_aload_n dX12_goSecond_15 rfl rfl ?_
  refine gf_X12_252 (x := m1 12 0 30) rfl dX12_goSecond_16 ?_
  refine a_if_ne (tgt := 42) dX12_goSecond_19 (by decide) ⟨fun c3 => ?_, fun c3 => ?_⟩
  · refine a_aload_n dX12_goSecond_42 rfl rfl ?_
    refine gf_X12_252 (x := m1 12 0 30) rfl dX12_goSecond_43 ?_
    refine a_aload_n dX12_goSecond_46 rfl rfl ?_
    refine gf_X12_264 (x := m1 12 0 34) rfl dX12_goSecond_47 ?_
    refine a_icmp_le (tgt := 61) dX12_goSecond_50 (by decide) ⟨fun c4 => ?_, fun c4 => ?_⟩
    · refine a_iconst (k := 0) dX12_goSecond_61 (n_lit (by decide)) ?_
      refine a_istore_n dX12_goSecond_62 rfl (by decide) rfl ?_
      exact ((h2.1 c3).1 c4)
    · refine a_aload_n dX12_goSecond_53 rfl rfl ?_
      refine a_aload_n dX12_goSecond_54 rfl rfl ?_
      refine gf_X12_252 (x := m1 12 0 30) rfl dX12_goSecond_55 ?_
      refine pf_X12_264 dX12_goSecond_58 ?_
      refine a_iconst (k := 0) dX12_goSecond_61 (n_lit (by decide)) ?_
      refine a_istore_n dX12_goSecond_62 rfl (by decide) rfl ?_
      exact ((h2.1 c3).2 c4)
  · refine a_iload_n dX12_goSecond_22 rfl rfl ?_
    refine a_if_le (tgt := 42) dX12_goSecond_23 (by decide) ⟨fun c5 => ?_, fun c5 => ?_⟩
    · refine a_aload_n dX12_goSecond_42 rfl rfl ?_
      refine gf_X12_252 (x := m1 12 0 30) rfl dX12_goSecond_43 ?_
      refine a_aload_n dX12_goSecond_46 rfl rfl ?_
      refine gf_X12_264 (x := m1 12 0 34) rfl dX12_goSecond_47 ?_
      refine a_icmp_le (tgt := 61) dX12_goSecond_50 (by decide) ⟨fun c6 => ?_, fun c6 => ?_⟩
      · refine a_iconst (k := 0) dX12_goSecond_61 (n_lit (by decide)) ?_
        refine a_istore_n dX12_goSecond_62 rfl (by decide) rfl ?_
        exact (((h2.2 c3).1 c5).1 c6)
      · refine a_aload_n dX12_goSecond_53 rfl rfl ?_
        refine a_aload_n dX12_goSecond_54 rfl rfl ?_
        refine gf_X12_252 (x := m1 12 0 30) rfl dX12_goSecond_55 ?_
        refine pf_X12_264 dX12_goSecond_58 ?_
        refine a_iconst (k := 0) dX12_goSecond_61 (n_lit (by decide)) ?_
        refine a_istore_n dX12_goSecond_62 rfl (by decide) rfl ?_
        exact (((h2.2 c3).1 c5).2 c6)
    · refine a_aload_n dX12_goSecond_26 rfl rfl ?_
      refine a_iconst (k := 1) dX12_goSecond_27 (n_lit (by decide)) ?_
      refine pf_X12_258 dX12_goSecond_28 ?_
      refine a_aload_n dX12_goSecond_31 rfl rfl ?_
      refine a_dup dX12_goSecond_32 rfl ?_
      refine gf_X12_255 (x := m1 12 0 31) rfl dX12_goSecond_33 ?_
      refine a_iconst (k := 1) dX12_goSecond_36 (n_lit (by decide)) ?_
      refine a_iadd dX12_goSecond_37 ?_
      refine pf_X12_255 dX12_goSecond_38 ?_
      exact a_vret dX12_goSecond_41 ((h2.2 c3).2 c5)
set_option maxRecDepth 10000 in
theorem sg_X12_goSecond_63 {d : Nat} {sx : Option (List Int)} (a1 : Int) (a2 : Int) (a3 : Int) (mem : AMem) (Q : Option AV → AMem → Prop) (h : ((mem 12 0 1) ≤ a3 → (Y cX12_goSecond 4 RX12 (d + 1) sx 121 [some (vr 12 0), some (vi a1), some (vi a2), some (vi 0)] [] mem Q)) ∧ (¬ (mem 12 0 1) ≤ a3 → (MtX yX12_isInNow cX12_isInNow 2 (some .boolean) d [vr 12 0, vi a3] mem (fun r m2 => ∃ x4 : Int, r = some (vi x4) ∧ ((x4 = (0 : Int) → (Y cX12_goSecond 4 RX12 (d + 1) sx 63 [some (vr 12 0), some (vi a1), some (vi a2), some (vi (w32 (a3 + 1)))] [] m2 Q)) ∧ (¬ x4 = (0 : Int) → (((m2 12 0 30) < (1 : Int) → (Y cX12_goSecond 4 RX12 (d + 1) sx 63 [some (vr 12 0), some (vi a1), some (vi a2), some (vi (w32 (a3 + 1)))] [] m2 Q)) ∧ (¬ (m2 12 0 30) < (1 : Int) → (MtX yX12_farFrom cX12_farFrom 2 (some .int) d [vr 12 0, vi a3] m2 (fun r m7 => ∃ x9 : Int, r = some (vi x9) ∧ ((0 ≤ (1 : Int) ∧ (1 : Int) < 10) ∧ (((m7 1306 0 1) < x9 → (Y cX12_goSecond 4 RX12 (d + 1) sx 63 [some (vr 12 0), some (vi a1), some (vi a2), some (vi (w32 (a3 + 1)))] [] m7 Q)) ∧ (¬ (m7 1306 0 1) < x9 → (Y cX12_goSecond 4 RX12 (d + 1) sx 63 [some (vr 12 0), some (vi a1), some (vi a2), some (vi (w32 (a3 + 1)))] [] (upM m7 12 0 33 (or_32 (m7 12 0 33) (shl32 1 a3))) Q)))))))))))))) : Y cX12_goSecond 4 RX12 (d + 1) sx 63 [some (vr 12 0), some (vi a1), some (vi a2), some (vi a3)] [] mem Q := by
  refine a_iload_n dX12_goSecond_63 rfl rfl ?_
  refine a_aload_n dX12_goSecond_64 rfl rfl ?_
  refine gf_X12_125 (x := mem 12 0 1) rfl dX12_goSecond_65 ?_
  refine a_icmp_ge (tgt := 119) dX12_goSecond_68 (by decide) ⟨fun c1 => ?_, fun c1 => ?_⟩
  · refine a_iconst (k := 0) dX12_goSecond_119 (n_lit (by decide)) ?_
    refine a_istore_n dX12_goSecond_120 rfl (by decide) rfl ?_
    exact (h.1 c1)
  · refine a_aload_n dX12_goSecond_71 rfl rfl ?_
    refine a_iload_n dX12_goSecond_72 rfl rfl ?_
    refine iv_X12_273 dX12_goSecond_73 (Nat.le_of_ble_eq_true rfl) (MtX_mono (h.2 c1) (fun r m2 hq => ?_))
    obtain ⟨x4, rfl, h3⟩ := hq
    refine ⟨x4, rfl, ?_⟩
    refine a_if_eq (tgt := 113) dX12_goSecond_76 (by decide) ⟨fun c5 => ?_, fun c5 => ?_⟩
    · refine a_iinc dX12_goSecond_113 rfl (by decide) rfl ?_
      refine a_goto (tgt := 63) dX12_goSecond_116 (by decide) ?_
      exact (h3.1 c5)
    · refine a_aload_n dX12_goSecond_79 rfl rfl ?_
      refine gf_X12_252 (x := m2 12 0 30) rfl dX12_goSecond_80 ?_
      refine a_iconst (k := 1) dX12_goSecond_83 (n_lit (by decide)) ?_
      refine a_icmp_lt (tgt := 113) dX12_goSecond_84 (by decide) ⟨fun c6 => ?_, fun c6 => ?_⟩
      · refine a_iinc dX12_goSecond_113 rfl (by decide) rfl ?_
        refine a_goto (tgt := 63) dX12_goSecond_116 (by decide) ?_
        exact ((h3.2 c5).1 c6)
      · refine a_aload_n dX12_goSecond_87 rfl rfl ?_
        refine a_iload_n dX12_goSecond_88 rfl rfl ?_
        refine iv_X12_276 dX12_goSecond_89 (Nat.le_of_ble_eq_true rfl) (MtX_mono ((h3.2 c5).2 c6) (fun r m7 hq => ?_))
        obtain ⟨x9, rfl, h8⟩ := hq
        refine ⟨x9, rfl, ?_⟩
        refine a_aload_n dX12_goSecond_92 rfl rfl ?_
        refine gf_X12_22 dX12_goSecond_93 ?_
        refine a_iconst (k := 1) dX12_goSecond_96 (n_lit (by decide)) ?_
        refine a_iald rfl rfl (by decide) rfl dX12_goSecond_97 ⟨h8.1, ?_⟩
        refine a_icmp_gt (tgt := 113) dX12_goSecond_98 (by decide) ⟨fun c10 => ?_, fun c10 => ?_⟩
        · refine a_iinc dX12_goSecond_113 rfl (by decide) rfl ?_
          refine a_goto (tgt := 63) dX12_goSecond_116 (by decide) ?_
          exact (h8.2.1 c10)
        · refine a_aload_n dX12_goSecond_101 rfl rfl ?_
          refine a_dup dX12_goSecond_102 rfl ?_
          refine gf_X12_261 (x := m7 12 0 33) rfl dX12_goSecond_103 ?_
          refine a_iconst (k := 1) dX12_goSecond_106 (n_lit (by decide)) ?_
          refine a_iload_n dX12_goSecond_107 rfl rfl ?_
          refine a_ishl dX12_goSecond_108 ?_
          refine a_ior dX12_goSecond_109 ?_
          refine pf_X12_261 dX12_goSecond_110 ?_
          refine a_iinc dX12_goSecond_113 rfl (by decide) rfl ?_
          refine a_goto (tgt := 63) dX12_goSecond_116 (by decide) ?_
          exact (h8.2.2 c10)
set_option maxRecDepth 10000 in
theorem sg_X12_goSecond_121 {d : Nat} {sx : Option (List Int)} (a1 : Int) (a2 : Int) (a3 : Int) (mem : AMem) (Q : Option AV → AMem → Prop) (h : ((mem 12 0 1) ≤ a3 → (MtX yX12_strongNow cX12_strongNow 3 (some .int) d [vr 12 0] (upM mem 12 0 31 (w32 ((mem 12 0 31) + 1))) (fun r m2 => ∃ x4 : Int, r = some (vi x4) ∧ ((0 ≤ (2 : Int) ∧ (2 : Int) < 10) ∧ ((x4 ≤ (m2 1306 0 2) → ((0 ≤ (0 : Int) ∧ (0 : Int) < 10) ∧ (((m2 12 0 31) ≠ (m2 1306 0 0) → (Q none m2)) ∧ ((m2 12 0 31) = (m2 1306 0 0) → (Q none (upM m2 12 0 32 3)))))) ∧ (¬ x4 ≤ (m2 1306 0 2) → (Q none (upM m2 12 0 32 2)))))))) ∧ (¬ (mem 12 0 1) ≤ a3 → (MtX yX12_isInNow cX12_isInNow 2 (some .boolean) d [vr 12 0, vi a3] mem (fun r m7 => ∃ x9 : Int, r = some (vi x9) ∧ ((x9 = (0 : Int) → (Y cX12_goSecond 4 RX12 (d + 1) sx 121 [some (vr 12 0), some (vi a1), some (vi a2), some (vi (w32 (a3 + 1)))] [] m7 Q)) ∧ (¬ x9 = (0 : Int) → (MtX yX12_actsNow cX12_actsNow 3 none d [vr 12 0, vi a3] m7 (fun r m11 => r = none ∧ (Y cX12_goSecond 4 RX12 (d + 1) sx 121 [some (vr 12 0), some (vi a1), some (vi a2), some (vi (w32 (a3 + 1)))] [] m11 Q))))))))) : Y cX12_goSecond 4 RX12 (d + 1) sx 121 [some (vr 12 0), some (vi a1), some (vi a2), some (vi a3)] [] mem Q := by
  refine a_iload_n dX12_goSecond_121 rfl rfl ?_
  refine a_aload_n dX12_goSecond_122 rfl rfl ?_
  refine gf_X12_125 (x := mem 12 0 1) rfl dX12_goSecond_123 ?_
  refine a_icmp_ge (tgt := 148) dX12_goSecond_126 (by decide) ⟨fun c1 => ?_, fun c1 => ?_⟩
  · refine a_aload_n dX12_goSecond_148 rfl rfl ?_
    refine a_dup dX12_goSecond_149 rfl ?_
    refine gf_X12_255 (x := mem 12 0 31) rfl dX12_goSecond_150 ?_
    refine a_iconst (k := 1) dX12_goSecond_153 (n_lit (by decide)) ?_
    refine a_iadd dX12_goSecond_154 ?_
    refine pf_X12_255 dX12_goSecond_155 ?_
    refine a_aload_n dX12_goSecond_158 rfl rfl ?_
    refine iv_X12_304 dX12_goSecond_159 (Nat.le_of_ble_eq_true rfl) (MtX_mono (h.1 c1) (fun r m2 hq => ?_))
    obtain ⟨x4, rfl, h3⟩ := hq
    refine ⟨x4, rfl, ?_⟩
    refine a_aload_n dX12_goSecond_162 rfl rfl ?_
    refine gf_X12_22 dX12_goSecond_163 ?_
    refine a_iconst (k := 2) dX12_goSecond_166 (n_lit (by decide)) ?_
    refine a_iald rfl rfl (by decide) rfl dX12_goSecond_167 ⟨h3.1, ?_⟩
    refine a_icmp_le (tgt := 179) dX12_goSecond_168 (by decide) ⟨fun c5 => ?_, fun c5 => ?_⟩
    · refine a_aload_n dX12_goSecond_179 rfl rfl ?_
      refine gf_X12_255 (x := m2 12 0 31) rfl dX12_goSecond_180 ?_
      refine a_aload_n dX12_goSecond_183 rfl rfl ?_
      refine gf_X12_22 dX12_goSecond_184 ?_
      refine a_iconst (k := 0) dX12_goSecond_187 (n_lit (by decide)) ?_
      refine a_iald rfl rfl (by decide) rfl dX12_goSecond_188 ⟨(h3.2.1 c5).1, ?_⟩
      refine a_icmp_ne (tgt := 197) dX12_goSecond_189 (by decide) ⟨fun c6 => ?_, fun c6 => ?_⟩
      · exact a_vret dX12_goSecond_197 ((h3.2.1 c5).2.1 c6)
      · refine a_aload_n dX12_goSecond_192 rfl rfl ?_
        refine a_iconst (k := 3) dX12_goSecond_193 (n_lit (by decide)) ?_
        refine pf_X12_258 dX12_goSecond_194 ?_
        exact a_vret dX12_goSecond_197 ((h3.2.1 c5).2.2 c6)
    · refine a_aload_n dX12_goSecond_171 rfl rfl ?_
      refine a_iconst (k := 2) dX12_goSecond_172 (n_lit (by decide)) ?_
      refine pf_X12_258 dX12_goSecond_173 ?_
      refine a_goto (tgt := 197) dX12_goSecond_176 (by decide) ?_
      exact a_vret dX12_goSecond_197 (h3.2.2 c5)
  · refine a_aload_n dX12_goSecond_129 rfl rfl ?_
    refine a_iload_n dX12_goSecond_130 rfl rfl ?_
    refine iv_X12_273 dX12_goSecond_131 (Nat.le_of_ble_eq_true rfl) (MtX_mono (h.2 c1) (fun r m7 hq => ?_))
    obtain ⟨x9, rfl, h8⟩ := hq
    refine ⟨x9, rfl, ?_⟩
    refine a_if_eq (tgt := 142) dX12_goSecond_134 (by decide) ⟨fun c10 => ?_, fun c10 => ?_⟩
    · refine a_iinc dX12_goSecond_142 rfl (by decide) rfl ?_
      refine a_goto (tgt := 121) dX12_goSecond_145 (by decide) ?_
      exact (h8.1 c10)
    · refine a_aload_n dX12_goSecond_137 rfl rfl ?_
      refine a_iload_n dX12_goSecond_138 rfl rfl ?_
      refine iv_X12_301 dX12_goSecond_139 (Nat.le_of_ble_eq_true rfl) (MtX_mono (h8.2 c10) (fun r m11 hq => ?_))
      obtain ⟨rfl, h12⟩ := hq
      refine ⟨rfl, ?_⟩
      refine a_iinc dX12_goSecond_142 rfl (by decide) rfl ?_
      refine a_goto (tgt := 121) dX12_goSecond_145 (by decide) ?_
      exact h12
set_option maxRecDepth 10000 in
theorem sg_X12_rowFault_0 {d : Nat} {sx : Option (List Int)} (a1 : Int) (mem : AMem) (Q : Option AV → AMem → Prop) (h : (0 ≤ a1 ∧ a1 < 6) ∧ (((mem 1359 0 a1) ≠ (-1 : Int) → ((0 ≤ a1 ∧ a1 < 6) ∧ (((mem 1359 0 a1) ≠ (-2 : Int) → (Q (some (vi (-12))) mem)) ∧ ((mem 1359 0 a1) = (-2 : Int) → (Q (some (vi 0)) mem))))) ∧ ((mem 1359 0 a1) = (-1 : Int) → (Q (some (vi (-11))) mem)))) : Y cX12_rowFault 2 RX12 (d + 1) sx 0 [some (vr 12 0), some (vi a1)] [] mem Q := by
  refine a_aload_n dX12_rowFault_0 rfl rfl ?_
  refine gf_X12_108 dX12_rowFault_1 ?_
  refine a_iload_n dX12_rowFault_4 rfl rfl ?_
  refine a_iald rfl rfl (by decide) rfl dX12_rowFault_5 ⟨h.1, ?_⟩
  refine a_iconst (k := (-1)) dX12_rowFault_6 (n_lit (by decide)) ?_
  refine a_icmp_ne (tgt := 15) dX12_rowFault_7 (by decide) ⟨fun c1 => ?_, fun c1 => ?_⟩
  · refine a_aload_n dX12_rowFault_15 rfl rfl ?_
    refine gf_X12_108 dX12_rowFault_16 ?_
    refine a_iload_n dX12_rowFault_19 rfl rfl ?_
    refine a_iald rfl rfl (by decide) rfl dX12_rowFault_20 ⟨(h.2.1 c1).1, ?_⟩
    refine a_bipush (k := (-2)) dX12_rowFault_21 (by decide) (n_lit (by decide)) ?_
    refine a_icmp_ne (tgt := 30) dX12_rowFault_23 (by decide) ⟨fun c2 => ?_, fun c2 => ?_⟩
    · refine a_bipush (k := (-12)) dX12_rowFault_30 (by decide) (n_lit (by decide)) ?_
      exact a_iret dX12_rowFault_32 ((h.2.1 c1).2.1 c2)
    · refine a_iconst (k := 0) dX12_rowFault_26 (n_lit (by decide)) ?_
      refine a_goto (tgt := 32) dX12_rowFault_27 (by decide) ?_
      exact a_iret dX12_rowFault_32 ((h.2.1 c1).2.2 c2)
  · refine a_bipush (k := (-11)) dX12_rowFault_10 (by decide) (n_lit (by decide)) ?_
    refine a_goto (tgt := 32) dX12_rowFault_12 (by decide) ?_
    exact a_iret dX12_rowFault_32 (h.2.2 c1)
set_option maxRecDepth 10000 in
theorem sg_X12_at_0 {d : Nat} {sx : Option (List Int)} (a1 : Int) (a2 : Int) (mem : AMem) (Q : Option AV → AMem → Prop) (h : (0 ≤ (w32 ((w32 (60 * a1)) + a2)) ∧ (w32 ((w32 (60 * a1)) + a2)) < 360) ∧ (Q (some (vi (w32 (mem 1361 0 (w32 ((w32 (60 * a1)) + a2)))))) mem)) : Y cX12_at 3 RX12 (d + 1) sx 0 [some (vr 12 0), some (vi a1), some (vi a2)] [] mem Q := by
  refine a_aload_n dX12_at_0 rfl rfl ?_
  refine gf_X12_114 dX12_at_1 ?_
  refine a_bipush (k := 60) dX12_at_4 (by decide) (n_lit (by decide)) ?_
  refine a_iload_n dX12_at_6 rfl rfl ?_
  refine a_imul dX12_at_7 ?_
  refine a_iload_n dX12_at_8 rfl rfl ?_
  refine a_iadd dX12_at_9 ?_
  refine a_lald rfl rfl (by decide) rfl dX12_at_10 ⟨h.1, ?_⟩
  refine a_l2i dX12_at_11 ?_
  exact a_iret dX12_at_12 h.2
set_option maxRecDepth 10000 in
theorem sg_X12_moveAt_0 {d : Nat} {sx : Option (List Int)} (a1 : Int) (a2 : Int) (mem : AMem) (Q : Option AV → AMem → Prop) (h : (0 ≤ a1 ∧ a1 < 6) ∧ (((mem 1360 0 a1) ≤ a2 → (Q (some (vi 0)) mem)) ∧ (¬ (mem 1360 0 a1) ≤ a2 → (MtX yX12_at cX12_at 3 (some .int) d [vr 12 0, vi a1, vi a2] mem (fun r m2 => ∃ x4 : Int, r = some (vi x4) ∧ (MtX yX12_in cX12_in 3 (some .boolean) d [vi x4, vi 0, vi 4] m2 (fun r m5 => ∃ x7 : Int, r = some (vi x7) ∧ ((x7 = (0 : Int) → (Q (some (vi 0)) m5)) ∧ (¬ x7 = (0 : Int) → (MtX yX12_at cX12_at 3 (some .int) d [vr 12 0, vi a1, vi a2] m5 (fun r m9 => ∃ x11 : Int, r = some (vi x11) ∧ (Q (some (vi x11)) m9)))))))))))) : Y cX12_moveAt 3 RX12 (d + 1) sx 0 [some (vr 12 0), some (vi a1), some (vi a2)] [] mem Q := by
  refine a_iload_n dX12_moveAt_0 rfl rfl ?_
  refine a_aload_n dX12_moveAt_1 rfl rfl ?_
  refine gf_X12_111 dX12_moveAt_2 ?_
  refine a_iload_n dX12_moveAt_5 rfl rfl ?_
  refine a_iald rfl rfl (by decide) rfl dX12_moveAt_6 ⟨h.1, ?_⟩
  refine a_icmp_ge (tgt := 33) dX12_moveAt_7 (by decide) ⟨fun c1 => ?_, fun c1 => ?_⟩
  · refine a_iconst (k := 0) dX12_moveAt_33 (n_lit (by decide)) ?_
    exact a_iret dX12_moveAt_34 (h.2.1 c1)
  · refine a_aload_n dX12_moveAt_10 rfl rfl ?_
    refine a_iload_n dX12_moveAt_11 rfl rfl ?_
    refine a_iload_n dX12_moveAt_12 rfl rfl ?_
    refine iv_X12_307 dX12_moveAt_13 (Nat.le_of_ble_eq_true rfl) (MtX_mono (h.2.2 c1) (fun r m2 hq => ?_))
    obtain ⟨x4, rfl, h3⟩ := hq
    refine ⟨x4, rfl, ?_⟩
    refine a_iconst (k := 0) dX12_moveAt_16 (n_lit (by decide)) ?_
    refine a_iconst (k := 4) dX12_moveAt_17 (n_lit (by decide)) ?_
    refine iv_X12_128 dX12_moveAt_18 (Nat.le_of_ble_eq_true rfl) (MtX_mono h3 (fun r m5 hq => ?_))
    obtain ⟨x7, rfl, h6⟩ := hq
    refine ⟨x7, rfl, ?_⟩
    refine a_if_eq (tgt := 33) dX12_moveAt_21 (by decide) ⟨fun c8 => ?_, fun c8 => ?_⟩
    · refine a_iconst (k := 0) dX12_moveAt_33 (n_lit (by decide)) ?_
      exact a_iret dX12_moveAt_34 (h6.1 c8)
    · refine a_aload_n dX12_moveAt_24 rfl rfl ?_
      refine a_iload_n dX12_moveAt_25 rfl rfl ?_
      refine a_iload_n dX12_moveAt_26 rfl rfl ?_
      refine iv_X12_307 dX12_moveAt_27 (Nat.le_of_ble_eq_true rfl) (MtX_mono (h6.2 c8) (fun r m9 hq => ?_))
      obtain ⟨x11, rfl, h10⟩ := hq
      refine ⟨x11, rfl, ?_⟩
      refine a_goto (tgt := 34) dX12_moveAt_30 (by decide) ?_
      exact a_iret dX12_moveAt_34 h10
set_option maxRecDepth 10000 in
theorem sg_X12_goRaid_0 {d : Nat} {sx : Option (List Int)} (a1 : Int) (a2 : Int) (mem : AMem) (Q : Option AV → AMem → Prop) (h : MtX yX12_beginRaid cX12_beginRaid 2 none d [vr 12 0] mem (fun r m1 => r = none ∧ (Y cX12_goRaid 3 RX12 (d + 1) sx 4 [some (vr 12 0), some (vi a1), some (vi a2)] [] m1 Q))) : Y cX12_goRaid 3 RX12 (d + 1) sx 0 [some (vr 12 0), some (vi a1), some (vi a2)] [] mem Q := by
  refine a_aload_n dX12_goRaid_0 rfl rfl ?_
  refine iv_X12_288 dX12_goRaid_1 (Nat.le_of_ble_eq_true rfl) (MtX_mono h (fun r m1 hq => ?_))
  obtain ⟨rfl, h2⟩ := hq
  refine ⟨rfl, ?_⟩
  exact h2
set_option maxRecDepth 10000 in
theorem sg_X12_goRaid_4 {d : Nat} {sx : Option (List Int)} (a1 : Int) (a2 : Int) (mem : AMem) (Q : Option AV → AMem → Prop) (h : ((mem 12 0 32) ≠ (0 : Int) → (Q none mem)) ∧ ((mem 12 0 32) = (0 : Int) → ((a2 ≤ (mem 12 0 31) → (Q none mem)) ∧ (¬ a2 ≤ (mem 12 0 31) → (MtX yX12_moveAt cX12_moveAt 3 (some .int) d [vr 12 0, vi a1, vi (mem 12 0 31)] mem (fun r m3 => ∃ x5 : Int, r = some (vi x5) ∧ (MtX yX12_goSecond cX12_goSecond 4 none d [vr 12 0, vi x5] m3 (fun r m6 => r = none ∧ (Y cX12_goRaid 3 RX12 (d + 1) sx 4 [some (vr 12 0), some (vi a1), some (vi a2)] [] m6 Q))))))))) : Y cX12_goRaid 3 RX12 (d + 1) sx 4 [some (vr 12 0), some (vi a1), some (vi a2)] [] mem Q := by
  refine a_aload_n dX12_goRaid_4 rfl rfl ?_
  refine gf_X12_258 (x := mem 12 0 32) rfl dX12_goRaid_5 ?_
  refine a_if_ne (tgt := 35) dX12_goRaid_8 (by decide) ⟨fun c1 => ?_, fun c1 => ?_⟩
  · exact a_vret dX12_goRaid_35 (h.1 c1)
  · refine a_aload_n dX12_goRaid_11 rfl rfl ?_
    refine gf_X12_255 (x := mem 12 0 31) rfl dX12_goRaid_12 ?_
    refine a_iload_n dX12_goRaid_15 rfl rfl ?_
    refine a_icmp_ge (tgt := 35) dX12_goRaid_16 (by decide) ⟨fun c2 => ?_, fun c2 => ?_⟩
    · exact a_vret dX12_goRaid_35 ((h.2 c1).1 c2)
    · refine a_aload_n dX12_goRaid_19 rfl rfl ?_
      refine a_aload_n dX12_goRaid_20 rfl rfl ?_
      refine a_iload_n dX12_goRaid_21 rfl rfl ?_
      refine a_aload_n dX12_goRaid_22 rfl rfl ?_
      refine gf_X12_255 (x := mem 12 0 31) rfl dX12_goRaid_23 ?_
      refine iv_X12_310 dX12_goRaid_26 (Nat.le_of_ble_eq_true rfl) (MtX_mono ((h.2 c1).2 c2) (fun r m3 hq => ?_))
      obtain ⟨x5, rfl, h4⟩ := hq
      refine ⟨x5, rfl, ?_⟩
      refine iv_X12_313 dX12_goRaid_29 (Nat.le_of_ble_eq_true rfl) (MtX_mono h4 (fun r m6 hq => ?_))
      obtain ⟨rfl, h7⟩ := hq
      refine ⟨rfl, ?_⟩
      refine a_goto (tgt := 4) dX12_goRaid_32 (by decide) ?_
      exact h7
set_option maxRecDepth 10000 in
theorem sg_X12_pointsNow_0 {d : Nat} {sx : Option (List Int)}  (mem : AMem) (Q : Option AV → AMem → Prop) (h : ((mem 12 0 32) ≠ (1 : Int) → (Q (some (vi 0)) mem)) ∧ ((mem 12 0 32) = (1 : Int) → (MtX yX12_bitsOf cX12_bitsOf 3 (some .int) d [vi (mem 12 0 33)] mem (fun r m2 => ∃ x4 : Int, r = some (vi x4) ∧ (Q (some (vi x4)) m2))))) : Y cX12_pointsNow 1 RX12 (d + 1) sx 0 [some (vr 12 0)] [] mem Q := by
  refine a_aload_n dX12_pointsNow_0 rfl rfl ?_
  refine gf_X12_258 (x := mem 12 0 32) rfl dX12_pointsNow_1 ?_
  refine a_iconst (k := 1) dX12_pointsNow_4 (n_lit (by decide)) ?_
  refine a_icmp_ne (tgt := 18) dX12_pointsNow_5 (by decide) ⟨fun c1 => ?_, fun c1 => ?_⟩
  · refine a_iconst (k := 0) dX12_pointsNow_18 (n_lit (by decide)) ?_
    exact a_iret dX12_pointsNow_19 (h.1 c1)
  · refine a_aload_n dX12_pointsNow_8 rfl rfl ?_
    refine gf_X12_261 (x := mem 12 0 33) rfl dX12_pointsNow_9 ?_
    refine iv_X12_279 dX12_pointsNow_12 (Nat.le_of_ble_eq_true rfl) (MtX_mono (h.2 c1) (fun r m2 hq => ?_))
    obtain ⟨x4, rfl, h3⟩ := hq
    refine ⟨x4, rfl, ?_⟩
    refine a_goto (tgt := 19) dX12_pointsNow_15 (by decide) ?_
    exact a_iret dX12_pointsNow_19 h3
set_option maxRecDepth 10000 in
theorem sg_X12_theirsNow_0 {d : Nat} {sx : Option (List Int)}  (mem : AMem) (Q : Option AV → AMem → Prop) (h : ((mem 12 0 32) ≠ (1 : Int) → (MtX yX12_bitsOf cX12_bitsOf 3 (some .int) d [vi (mem 12 0 36)] mem (fun r m2 => ∃ x4 : Int, r = some (vi x4) ∧ (((3 : Int) < x4 → (Q (some (vi 1)) m2)) ∧ (¬ (3 : Int) < x4 → (Q (some (vi 2)) m2)))))) ∧ ((mem 12 0 32) = (1 : Int) → (((mem 12 0 33) ≠ (0 : Int) → (Q (some (vi 0)) mem)) ∧ ((mem 12 0 33) = (0 : Int) → ((0 ≤ (4 : Int) ∧ (4 : Int) < 10) ∧ (((mem 1306 0 4) ≤ (mem 12 0 34) → (Q (some (vi 0)) mem)) ∧ (¬ (mem 1306 0 4) ≤ (mem 12 0 34) → (Q (some (vi 1)) mem)))))))) : Y cX12_theirsNow 1 RX12 (d + 1) sx 0 [some (vr 12 0)] [] mem Q := by
  refine a_aload_n dX12_theirsNow_0 rfl rfl ?_
  refine gf_X12_258 (x := mem 12 0 32) rfl dX12_theirsNow_1 ?_
  refine a_iconst (k := 1) dX12_theirsNow_4 (n_lit (by decide)) ?_
  refine a_icmp_ne (tgt := 34) dX12_theirsNow_5 (by decide) ⟨fun c1 => ?_, fun c1 => ?_⟩
  · refine a_aload_n dX12_theirsNow_34 rfl rfl ?_
    refine gf_X12_246 (x := mem 12 0 36) rfl dX12_theirsNow_35 ?_
    refine iv_X12_279 dX12_theirsNow_38 (Nat.le_of_ble_eq_true rfl) (MtX_mono (h.1 c1) (fun r m2 hq => ?_))
    obtain ⟨x4, rfl, h3⟩ := hq
    refine ⟨x4, rfl, ?_⟩
    refine a_iconst (k := 3) dX12_theirsNow_41 (n_lit (by decide)) ?_
    refine a_icmp_gt (tgt := 49) dX12_theirsNow_42 (by decide) ⟨fun c5 => ?_, fun c5 => ?_⟩
    · refine a_iconst (k := 1) dX12_theirsNow_49 (n_lit (by decide)) ?_
      exact a_iret dX12_theirsNow_50 (h3.1 c5)
    · refine a_iconst (k := 2) dX12_theirsNow_45 (n_lit (by decide)) ?_
      refine a_goto (tgt := 50) dX12_theirsNow_46 (by decide) ?_
      exact a_iret dX12_theirsNow_50 (h3.2 c5)
  · refine a_aload_n dX12_theirsNow_8 rfl rfl ?_
    refine gf_X12_261 (x := mem 12 0 33) rfl dX12_theirsNow_9 ?_
    refine a_if_ne (tgt := 32) dX12_theirsNow_12 (by decide) ⟨fun c6 => ?_, fun c6 => ?_⟩
    · refine a_iconst (k := 0) dX12_theirsNow_32 (n_lit (by decide)) ?_
      exact a_iret dX12_theirsNow_33 ((h.2 c1).1 c6)
    · refine a_aload_n dX12_theirsNow_15 rfl rfl ?_
      refine gf_X12_264 (x := mem 12 0 34) rfl dX12_theirsNow_16 ?_
      refine a_aload_n dX12_theirsNow_19 rfl rfl ?_
      refine gf_X12_22 dX12_theirsNow_20 ?_
      refine a_iconst (k := 4) dX12_theirsNow_23 (n_lit (by decide)) ?_
      refine a_iald rfl rfl (by decide) rfl dX12_theirsNow_24 ⟨((h.2 c1).2 c6).1, ?_⟩
      refine a_icmp_ge (tgt := 32) dX12_theirsNow_25 (by decide) ⟨fun c7 => ?_, fun c7 => ?_⟩
      · refine a_iconst (k := 0) dX12_theirsNow_32 (n_lit (by decide)) ?_
        exact a_iret dX12_theirsNow_33 (((h.2 c1).2 c6).2.1 c7)
      · refine a_iconst (k := 1) dX12_theirsNow_28 (n_lit (by decide)) ?_
        refine a_goto (tgt := 33) dX12_theirsNow_29 (by decide) ?_
        exact a_iret dX12_theirsNow_33 (((h.2 c1).2 c6).2.2 c7)
set_option maxRecDepth 10000 in
theorem sg_X12_raid_0 {d : Nat} {sx : Option (List Int)} (a1 : Int) (a2 : Int) (mem : AMem) (Q : Option AV → AMem → Prop) (h : MtX yX12_isShelf cX12_isShelf 1 (some .boolean) d [vi a1] mem (fun r m1 => ∃ x3 : Int, r = some (vi x3) ∧ ((x3 = (0 : Int) → (Q (some (vi (-1))) m1)) ∧ (¬ x3 = (0 : Int) → (MtX yX12_in cX12_in 3 (some .boolean) d [vi a2, vi 0, vi 6] m1 (fun r m5 => ∃ x7 : Int, r = some (vi x7) ∧ ((x7 ≠ (0 : Int) → (MtX yX12_rowFault cX12_rowFault 2 (some .int) d [vr 12 0, vi a1] m5 (fun r m9 => ∃ x11 : Int, r = some (vi x11) ∧ (((0 : Int) ≤ x11 → (MtX yX12_goRaid cX12_goRaid 3 none d [vr 12 0, vi a1, vi 60] m9 (fun r m13 => r = none ∧ ((a2 = 0 → (Q (some (vi (m13 12 0 32))) m13)) ∧ (a2 = 1 → (Q (some (vi (m13 12 0 31))) m13)) ∧ (a2 = 2 → (MtX yX12_pointsNow cX12_pointsNow 1 (some .int) d [vr 12 0] m13 (fun r m16 => ∃ x18 : Int, r = some (vi x18) ∧ (Q (some (vi x18)) m16)))) ∧ (a2 = 3 → (MtX yX12_theirsNow cX12_theirsNow 1 (some .int) d [vr 12 0] m13 (fun r m19 => ∃ x21 : Int, r = some (vi x21) ∧ (Q (some (vi x21)) m19)))) ∧ (a2 = 4 → (Q (some (vi (m13 12 0 33))) m13)) ∧ (a2 = 5 → (Q (some (vi (m13 12 0 34))) m13)) ∧ (¬ (0 ≤ a2 ∧ a2 ≤ 5) → (Q (some (vi (m13 12 0 35))) m13)))))) ∧ (¬ (0 : Int) ≤ x11 → (MtX yX12_rowFault cX12_rowFault 2 (some .int) d [vr 12 0, vi a1] m9 (fun r m23 => ∃ x25 : Int, r = some (vi x25) ∧ (Q (some (vi x25)) m23)))))))) ∧ (x7 = (0 : Int) → (Q (some (vi (-1))) m5))))))))) : Y cX12_raid 3 RX12 (d + 1) sx 0 [some (vr 12 0), some (vi a1), some (vi a2)] [] mem Q := by
  refine a_iload_n dX12_raid_0 rfl rfl ?_
  refine iv_X12_143 dX12_raid_1 (Nat.le_of_ble_eq_true rfl) (MtX_mono h (fun r m1 hq => ?_))
  obtain ⟨x3, rfl, h2⟩ := hq
  refine ⟨x3, rfl, ?_⟩
  refine a_if_eq (tgt := 17) dX12_raid_4 (by decide) ⟨fun c4 => ?_, fun c4 => ?_⟩
  · refine a_iconst (k := (-1)) dX12_raid_17 (n_lit (by decide)) ?_
    exact a_iret dX12_raid_18 (h2.1 c4)
  · refine a_iload_n dX12_raid_7 rfl rfl ?_
    refine a_iconst (k := 0) dX12_raid_8 (n_lit (by decide)) ?_
    refine a_bipush (k := 6) dX12_raid_9 (by decide) (n_lit (by decide)) ?_
    refine iv_X12_128 dX12_raid_11 (Nat.le_of_ble_eq_true rfl) (MtX_mono (h2.2 c4) (fun r m5 hq => ?_))
    obtain ⟨x7, rfl, h6⟩ := hq
    refine ⟨x7, rfl, ?_⟩
    refine a_if_ne (tgt := 19) dX12_raid_14 (by decide) ⟨fun c8 => ?_, fun c8 => ?_⟩
    · refine a_aload_n dX12_raid_19 rfl rfl ?_
      refine a_iload_n dX12_raid_20 rfl rfl ?_
      refine iv_X12_316 dX12_raid_21 (Nat.le_of_ble_eq_true rfl) (MtX_mono (h6.1 c8) (fun r m9 hq => ?_))
      obtain ⟨x11, rfl, h10⟩ := hq
      refine ⟨x11, rfl, ?_⟩
      refine a_if_ge (tgt := 33) dX12_raid_24 (by decide) ⟨fun c12 => ?_, fun c12 => ?_⟩
      · refine a_aload_n dX12_raid_33 rfl rfl ?_
        refine a_iload_n dX12_raid_34 rfl rfl ?_
        refine a_bipush (k := 60) dX12_raid_35 (by decide) (n_lit (by decide)) ?_
        refine iv_X12_319 dX12_raid_37 (Nat.le_of_ble_eq_true rfl) (MtX_mono (h10.1 c12) (fun r m13 hq => ?_))
        obtain ⟨rfl, h14⟩ := hq
        refine ⟨rfl, ?_⟩
        refine a_iload_n dX12_raid_40 rfl rfl ?_
        refine a_table dX12_raid_41 (fun z => if z = 0 then 80 else if z = 1 then 85 else if z = 2 then 90 else if z = 3 then 95 else if z = 4 then 100 else if z = 5 then 105 else 0) 110 (by decide) (by decide) (by decide) ⟨fun e15a e15b => ?_, fun e22 => ?_⟩
        · rcases (by omega : a2 = 0 ∨ a2 = 1 ∨ a2 = 2 ∨ a2 = 3 ∨ a2 = 4 ∨ a2 = 5) with e15 | e15 | e15 | e15 | e15 | e15
          · refine Y_at (pc := 80) (by rw [e15]; rfl) ?_
            refine a_aload_n dX12_raid_80 rfl rfl ?_
            refine gf_X12_258 (x := m13 12 0 32) rfl dX12_raid_81 ?_
            exact a_iret dX12_raid_84 (h14.1 e15)
          · refine Y_at (pc := 85) (by rw [e15]; rfl) ?_
            refine a_aload_n dX12_raid_85 rfl rfl ?_
            refine gf_X12_255 (x := m13 12 0 31) rfl dX12_raid_86 ?_
            exact a_iret dX12_raid_89 (h14.2.1 e15)
          · refine Y_at (pc := 90) (by rw [e15]; rfl) ?_
            refine a_aload_n dX12_raid_90 rfl rfl ?_
            refine iv_X12_322 dX12_raid_91 (Nat.le_of_ble_eq_true rfl) (MtX_mono (h14.2.2.1 e15) (fun r m16 hq => ?_))
            obtain ⟨x18, rfl, h17⟩ := hq
            refine ⟨x18, rfl, ?_⟩
            exact a_iret dX12_raid_94 h17
          · refine Y_at (pc := 95) (by rw [e15]; rfl) ?_
            refine a_aload_n dX12_raid_95 rfl rfl ?_
            refine iv_X12_325 dX12_raid_96 (Nat.le_of_ble_eq_true rfl) (MtX_mono (h14.2.2.2.1 e15) (fun r m19 hq => ?_))
            obtain ⟨x21, rfl, h20⟩ := hq
            refine ⟨x21, rfl, ?_⟩
            exact a_iret dX12_raid_99 h20
          · refine Y_at (pc := 100) (by rw [e15]; rfl) ?_
            refine a_aload_n dX12_raid_100 rfl rfl ?_
            refine gf_X12_261 (x := m13 12 0 33) rfl dX12_raid_101 ?_
            exact a_iret dX12_raid_104 (h14.2.2.2.2.1 e15)
          · refine Y_at (pc := 105) (by rw [e15]; rfl) ?_
            refine a_aload_n dX12_raid_105 rfl rfl ?_
            refine gf_X12_264 (x := m13 12 0 34) rfl dX12_raid_106 ?_
            exact a_iret dX12_raid_109 (h14.2.2.2.2.2.1 e15)
        · refine a_aload_n dX12_raid_110 rfl rfl ?_
          refine gf_X12_267 (x := m13 12 0 35) rfl dX12_raid_111 ?_
          exact a_iret dX12_raid_114 (h14.2.2.2.2.2.2 e22)
      · refine a_aload_n dX12_raid_27 rfl rfl ?_
        refine a_iload_n dX12_raid_28 rfl rfl ?_
        refine iv_X12_316 dX12_raid_29 (Nat.le_of_ble_eq_true rfl) (MtX_mono (h10.2 c12) (fun r m23 hq => ?_))
        obtain ⟨x25, rfl, h24⟩ := hq
        refine ⟨x25, rfl, ?_⟩
        exact a_iret dX12_raid_32 h24
    · refine a_iconst (k := (-1)) dX12_raid_17 (n_lit (by decide)) ?_
      exact a_iret dX12_raid_18 (h6.2 c8)
set_option maxRecDepth 10000 in
theorem sg_X12_where_0 {d : Nat} {sx : Option (List Int)} (a1 : Int) (a2 : Int) (a3 : Int) (mem : AMem) (Q : Option AV → AMem → Prop) (h : MtX yX12_isShelf cX12_isShelf 1 (some .boolean) d [vi a1] mem (fun r m1 => ∃ x3 : Int, r = some (vi x3) ∧ ((x3 = (0 : Int) → (Q (some (vi (-1))) m1)) ∧ (¬ x3 = (0 : Int) → (MtX yX12_in cX12_in 3 (some .boolean) d [vi a2, vi 0, vi 60] m1 (fun r m5 => ∃ x7 : Int, r = some (vi x7) ∧ ((x7 = (0 : Int) → (Q (some (vi (-1))) m5)) ∧ (¬ x7 = (0 : Int) → (MtX yX12_in cX12_in 3 (some .boolean) d [vi a3, vi (-1), vi (w32 ((m5 12 0 1) - 1))] m5 (fun r m9 => ∃ x11 : Int, r = some (vi x11) ∧ ((x11 ≠ (0 : Int) → (MtX yX12_rowFault cX12_rowFault 2 (some .int) d [vr 12 0, vi a1] m9 (fun r m13 => ∃ x15 : Int, r = some (vi x15) ∧ (((0 : Int) ≤ x15 → (MtX yX12_goRaid cX12_goRaid 3 none d [vr 12 0, vi a1, vi a2] m13 (fun r m17 => r = none ∧ (((0 : Int) ≤ a3 → ((0 ≤ a3 ∧ a3 < 7) ∧ ((0 ≤ a3 ∧ a3 < 7) ∧ (Q (some (vi (w32 ((w32 (10 * (m17 1328 0 a3))) + (m17 1327 0 a3))))) m17)))) ∧ (¬ (0 : Int) ≤ a3 → (Q (some (vi (w32 ((w32 (10 * (m17 12 0 30))) + (m17 12 0 29))))) m17)))))) ∧ (¬ (0 : Int) ≤ x15 → (MtX yX12_rowFault cX12_rowFault 2 (some .int) d [vr 12 0, vi a1] m13 (fun r m20 => ∃ x22 : Int, r = some (vi x22) ∧ (Q (some (vi x22)) m20)))))))) ∧ (x11 = (0 : Int) → (Q (some (vi (-1))) m9))))))))))))) : Y cX12_where 4 RX12 (d + 1) sx 0 [some (vr 12 0), some (vi a1), some (vi a2), some (vi a3)] [] mem Q := by
  refine a_iload_n dX12_where_0 rfl rfl ?_
  refine iv_X12_143 dX12_where_1 (Nat.le_of_ble_eq_true rfl) (MtX_mono h (fun r m1 hq => ?_))
  obtain ⟨x3, rfl, h2⟩ := hq
  refine ⟨x3, rfl, ?_⟩
  refine a_if_eq (tgt := 31) dX12_where_4 (by decide) ⟨fun c4 => ?_, fun c4 => ?_⟩
  · refine a_iconst (k := (-1)) dX12_where_31 (n_lit (by decide)) ?_
    exact a_iret dX12_where_32 (h2.1 c4)
  · refine a_iload_n dX12_where_7 rfl rfl ?_
    refine a_iconst (k := 0) dX12_where_8 (n_lit (by decide)) ?_
    refine a_bipush (k := 60) dX12_where_9 (by decide) (n_lit (by decide)) ?_
    refine iv_X12_128 dX12_where_11 (Nat.le_of_ble_eq_true rfl) (MtX_mono (h2.2 c4) (fun r m5 hq => ?_))
    obtain ⟨x7, rfl, h6⟩ := hq
    refine ⟨x7, rfl, ?_⟩
    refine a_if_eq (tgt := 31) dX12_where_14 (by decide) ⟨fun c8 => ?_, fun c8 => ?_⟩
    · refine a_iconst (k := (-1)) dX12_where_31 (n_lit (by decide)) ?_
      exact a_iret dX12_where_32 (h6.1 c8)
    · refine a_iload_n dX12_where_17 rfl rfl ?_
      refine a_iconst (k := (-1)) dX12_where_18 (n_lit (by decide)) ?_
      refine a_aload_n dX12_where_19 rfl rfl ?_
      refine gf_X12_125 (x := m5 12 0 1) rfl dX12_where_20 ?_
      refine a_iconst (k := 1) dX12_where_23 (n_lit (by decide)) ?_
      refine a_isub dX12_where_24 ?_
      refine iv_X12_128 dX12_where_25 (Nat.le_of_ble_eq_true rfl) (MtX_mono (h6.2 c8) (fun r m9 hq => ?_))
      obtain ⟨x11, rfl, h10⟩ := hq
      refine ⟨x11, rfl, ?_⟩
      refine a_if_ne (tgt := 33) dX12_where_28 (by decide) ⟨fun c12 => ?_, fun c12 => ?_⟩
      · refine a_aload_n dX12_where_33 rfl rfl ?_
        refine a_iload_n dX12_where_34 rfl rfl ?_
        refine iv_X12_316 dX12_where_35 (Nat.le_of_ble_eq_true rfl) (MtX_mono (h10.1 c12) (fun r m13 hq => ?_))
        obtain ⟨x15, rfl, h14⟩ := hq
        refine ⟨x15, rfl, ?_⟩
        refine a_if_ge (tgt := 47) dX12_where_38 (by decide) ⟨fun c16 => ?_, fun c16 => ?_⟩
        · refine a_aload_n dX12_where_47 rfl rfl ?_
          refine a_iload_n dX12_where_48 rfl rfl ?_
          refine a_iload_n dX12_where_49 rfl rfl ?_
          refine iv_X12_319 dX12_where_50 (Nat.le_of_ble_eq_true rfl) (MtX_mono (h14.1 c16) (fun r m17 hq => ?_))
          obtain ⟨rfl, h18⟩ := hq
          refine ⟨rfl, ?_⟩
          refine a_iload_n dX12_where_53 rfl rfl ?_
          refine a_if_ge (tgt := 72) dX12_where_54 (by decide) ⟨fun c19 => ?_, fun c19 => ?_⟩
          · refine a_bipush (k := 10) dX12_where_72 (by decide) (n_lit (by decide)) ?_
            refine a_aload_n dX12_where_74 rfl rfl ?_
            refine gf_X12_66 dX12_where_75 ?_
            refine a_iload_n dX12_where_78 rfl rfl ?_
            refine a_iald rfl rfl (by decide) rfl dX12_where_79 ⟨(h18.1 c19).1, ?_⟩
            refine a_imul dX12_where_80 ?_
            refine a_aload_n dX12_where_81 rfl rfl ?_
            refine gf_X12_63 dX12_where_82 ?_
            refine a_iload_n dX12_where_85 rfl rfl ?_
            refine a_iald rfl rfl (by decide) rfl dX12_where_86 ⟨(h18.1 c19).2.1, ?_⟩
            refine a_iadd dX12_where_87 ?_
            exact a_iret dX12_where_88 (h18.1 c19).2.2
          · refine a_bipush (k := 10) dX12_where_57 (by decide) (n_lit (by decide)) ?_
            refine a_aload_n dX12_where_59 rfl rfl ?_
            refine gf_X12_252 (x := m17 12 0 30) rfl dX12_where_60 ?_
            refine a_imul dX12_where_63 ?_
            refine a_aload_n dX12_where_64 rfl rfl ?_
            refine gf_X12_249 (x := m17 12 0 29) rfl dX12_where_65 ?_
            refine a_iadd dX12_where_68 ?_
            refine a_goto (tgt := 88) dX12_where_69 (by decide) ?_
            exact a_iret dX12_where_88 (h18.2 c19)
        · refine a_aload_n dX12_where_41 rfl rfl ?_
          refine a_iload_n dX12_where_42 rfl rfl ?_
          refine iv_X12_316 dX12_where_43 (Nat.le_of_ble_eq_true rfl) (MtX_mono (h14.2 c16) (fun r m20 hq => ?_))
          obtain ⟨x22, rfl, h21⟩ := hq
          refine ⟨x22, rfl, ?_⟩
          exact a_iret dX12_where_46 h21
      · refine a_iconst (k := (-1)) dX12_where_31 (n_lit (by decide)) ?_
        exact a_iret dX12_where_32 (h10.2 c12)
set_option maxRecDepth 10000 in
theorem sg_X12_goMoves_0 {d : Nat} {sx : Option (List Int)} (a1 : Int) (mem : AMem) (Q : Option AV → AMem → Prop) (h : MtX yX12_beginRaid cX12_beginRaid 2 none d [vr 12 0] mem (fun r m1 => r = none ∧ (Y cX12_goMoves 2 RX12 (d + 1) sx 4 [some (vr 12 0), some (vi a1)] [] m1 Q))) : Y cX12_goMoves 2 RX12 (d + 1) sx 0 [some (vr 12 0), some (vi a1)] [] mem Q := by
  refine a_aload_n dX12_goMoves_0 rfl rfl ?_
  refine iv_X12_288 dX12_goMoves_1 (Nat.le_of_ble_eq_true rfl) (MtX_mono h (fun r m1 hq => ?_))
  obtain ⟨rfl, h2⟩ := hq
  refine ⟨rfl, ?_⟩
  exact h2
set_option maxRecDepth 10000 in
theorem sg_X12_goMoves_4 {d : Nat} {sx : Option (List Int)} (a1 : Int) (mem : AMem) (Q : Option AV → AMem → Prop) (h : ((mem 12 0 32) ≠ (0 : Int) → (Q none mem)) ∧ ((mem 12 0 32) = (0 : Int) → ((a1 ≤ (mem 12 0 31) → (MtX yX12_goSecond cX12_goSecond 4 none d [vr 12 0, vi 2] mem (fun r m3 => r = none ∧ (Y cX12_goMoves 2 RX12 (d + 1) sx 4 [some (vr 12 0), some (vi a1)] [] m3 Q)))) ∧ (¬ a1 ≤ (mem 12 0 31) → ((0 ≤ (mem 12 0 31) ∧ (mem 12 0 31) < 5) ∧ (MtX yX12_goSecond cX12_goSecond 4 none d [vr 12 0, vi (mem 1337 0 (mem 12 0 31))] mem (fun r m5 => r = none ∧ (Y cX12_goMoves 2 RX12 (d + 1) sx 4 [some (vr 12 0), some (vi a1)] [] m5 Q)))))))) : Y cX12_goMoves 2 RX12 (d + 1) sx 4 [some (vr 12 0), some (vi a1)] [] mem Q := by
  refine a_aload_n dX12_goMoves_4 rfl rfl ?_
  refine gf_X12_258 (x := mem 12 0 32) rfl dX12_goMoves_5 ?_
  refine a_if_ne (tgt := 39) dX12_goMoves_8 (by decide) ⟨fun c1 => ?_, fun c1 => ?_⟩
  · exact a_vret dX12_goMoves_39 (h.1 c1)
  · refine a_aload_n dX12_goMoves_11 rfl rfl ?_
    refine a_aload_n dX12_goMoves_12 rfl rfl ?_
    refine gf_X12_255 (x := mem 12 0 31) rfl dX12_goMoves_13 ?_
    refine a_iload_n dX12_goMoves_16 rfl rfl ?_
    refine a_icmp_ge (tgt := 32) dX12_goMoves_17 (by decide) ⟨fun c2 => ?_, fun c2 => ?_⟩
    · refine a_iconst (k := 2) dX12_goMoves_32 (n_lit (by decide)) ?_
      refine iv_X12_313 dX12_goMoves_33 (Nat.le_of_ble_eq_true rfl) (MtX_mono ((h.2 c1).1 c2) (fun r m3 hq => ?_))
      obtain ⟨rfl, h4⟩ := hq
      refine ⟨rfl, ?_⟩
      refine a_goto (tgt := 4) dX12_goMoves_36 (by decide) ?_
      exact h4
    · refine a_aload_n dX12_goMoves_20 rfl rfl ?_
      refine gf_X12_69 dX12_goMoves_21 ?_
      refine a_aload_n dX12_goMoves_24 rfl rfl ?_
      refine gf_X12_255 (x := mem 12 0 31) rfl dX12_goMoves_25 ?_
      refine a_iald rfl rfl (by decide) rfl dX12_goMoves_28 ⟨((h.2 c1).2 c2).1, ?_⟩
      refine a_goto (tgt := 33) dX12_goMoves_29 (by decide) ?_
      refine iv_X12_313 dX12_goMoves_33 (Nat.le_of_ble_eq_true rfl) (MtX_mono ((h.2 c1).2 c2).2 (fun r m5 hq => ?_))
      obtain ⟨rfl, h6⟩ := hq
      refine ⟨rfl, ?_⟩
      refine a_goto (tgt := 4) dX12_goMoves_36 (by decide) ?_
      exact h6
set_option maxRecDepth 10000 in
theorem sg_X12_layMoves_0 {d : Nat} {sx : Option (List Int)} (a1 : Int) (a2 : Int) (mem : AMem) (Q : Option AV → AMem → Prop) (h : Y cX12_layMoves 5 RX12 (d + 1) sx 7 [some (vr 12 0), some (vi a1), some (vi a2), some (vi a2), some (vi (w32 (a1 - 1)))] [] mem Q) : Y cX12_layMoves 5 RX12 (d + 1) sx 0 [some (vr 12 0), some (vi a1), some (vi a2), none, none] [] mem Q := by
  refine a_iload_n dX12_layMoves_0 rfl rfl ?_
  refine a_istore_n dX12_layMoves_1 rfl (by decide) rfl ?_
  refine a_iload_n dX12_layMoves_2 rfl rfl ?_
  refine a_iconst (k := 1) dX12_layMoves_3 (n_lit (by decide)) ?_
  refine a_isub dX12_layMoves_4 ?_
  refine a_istore dX12_layMoves_5 (by decide) rfl ?_
  exact h
set_option maxRecDepth 10000 in
theorem sg_X12_layMoves_7 {d : Nat} {sx : Option (List Int)} (a1 : Int) (a2 : Int) (a3 : Int) (a4 : Int) (mem : AMem) (Q : Option AV → AMem → Prop) (h : (a4 < (0 : Int) → (Q none mem)) ∧ (¬ a4 < (0 : Int) → ((0 ≤ a4 ∧ a4 < 5) ∧ (Y cX12_layMoves 5 RX12 (d + 1) sx 7 [some (vr 12 0), some (vi a1), some (vi a2), some (vi (w32 (Int.tdiv a3 5))), some (vi (w32 (a4 + (-1))))] [] (upM mem 1337 0 a4 (Int.tmod a3 5)) Q)))) : Y cX12_layMoves 5 RX12 (d + 1) sx 7 [some (vr 12 0), some (vi a1), some (vi a2), some (vi a3), some (vi a4)] [] mem Q := by
  refine a_iload dX12_layMoves_7 rfl ?_
  refine a_if_lt (tgt := 32) dX12_layMoves_9 (by decide) ⟨fun c1 => ?_, fun c1 => ?_⟩
  · exact a_vret dX12_layMoves_32 (h.1 c1)
  · refine a_aload_n dX12_layMoves_12 rfl rfl ?_
    refine gf_X12_69 dX12_layMoves_13 ?_
    refine a_iload dX12_layMoves_16 rfl ?_
    refine a_iload_n dX12_layMoves_18 rfl rfl ?_
    refine a_iconst (k := 5) dX12_layMoves_19 (n_lit (by decide)) ?_
    refine a_irem dX12_layMoves_20 (by decide) ?_
    refine a_iast rfl rfl (by decide) rfl dX12_layMoves_21 ⟨(h.2 c1).1, ?_⟩
    refine a_iload_n dX12_layMoves_22 rfl rfl ?_
    refine a_iconst (k := 5) dX12_layMoves_23 (n_lit (by decide)) ?_
    refine a_idiv dX12_layMoves_24 (by decide) ?_
    refine a_istore_n dX12_layMoves_25 rfl (by decide) rfl ?_
    refine a_iinc dX12_layMoves_26 rfl (by decide) rfl ?_
    refine a_goto (tgt := 7) dX12_layMoves_29 (by decide) ?_
    exact (h.2 c1).2
set_option maxRecDepth 10000 in
theorem sg_X12_allMoves_0 {d : Nat} {sx : Option (List Int)} (a0 : Int) (mem : AMem) (Q : Option AV → AMem → Prop) (h : Y cX12_allMoves 3 RX12 (d + 1) sx 4 [some (vi a0), some (vi 1), some (vi 0)] [] mem Q) : Y cX12_allMoves 3 RX12 (d + 1) sx 0 [some (vi a0), none, none] [] mem Q := by
  refine a_iconst (k := 1) dX12_allMoves_0 (n_lit (by decide)) ?_
  refine a_istore_n dX12_allMoves_1 rfl (by decide) rfl ?_
  refine a_iconst (k := 0) dX12_allMoves_2 (n_lit (by decide)) ?_
  refine a_istore_n dX12_allMoves_3 rfl (by decide) rfl ?_
  exact h
set_option maxRecDepth 10000 in
theorem sg_X12_allMoves_4 {d : Nat} {sx : Option (List Int)} (a0 : Int) (a1 : Int) (a2 : Int) (mem : AMem) (Q : Option AV → AMem → Prop) (h : (a0 ≤ a2 → (Q (some (vi a1)) mem)) ∧ (¬ a0 ≤ a2 → (Y cX12_allMoves 3 RX12 (d + 1) sx 4 [some (vi a0), some (vi (w32 (a1 * 5))), some (vi (w32 (a2 + 1)))] [] mem Q))) : Y cX12_allMoves 3 RX12 (d + 1) sx 4 [some (vi a0), some (vi a1), some (vi a2)] [] mem Q := by
  refine a_iload_n dX12_allMoves_4 rfl rfl ?_
  refine a_iload_n dX12_allMoves_5 rfl rfl ?_
  refine a_icmp_ge (tgt := 19) dX12_allMoves_6 (by decide) ⟨fun c1 => ?_, fun c1 => ?_⟩
  · refine a_iload_n dX12_allMoves_19 rfl rfl ?_
    exact a_iret dX12_allMoves_20 (h.1 c1)
  · refine a_iload_n dX12_allMoves_9 rfl rfl ?_
    refine a_iconst (k := 5) dX12_allMoves_10 (n_lit (by decide)) ?_
    refine a_imul dX12_allMoves_11 ?_
    refine a_istore_n dX12_allMoves_12 rfl (by decide) rfl ?_
    refine a_iinc dX12_allMoves_13 rfl (by decide) rfl ?_
    refine a_goto (tgt := 4) dX12_allMoves_16 (by decide) ?_
    exact (h.2 c1)
set_option maxRecDepth 10000 in
theorem sg_X12_keepBest_0 {d : Nat} {sx : Option (List Int)} (a1 : Int) (mem : AMem) (Q : Option AV → AMem → Prop) (h : Y cX12_keepBest 3 RX12 (d + 1) sx 7 [some (vr 12 0), some (vi a1), some (vi 0)] [] (upM mem 12 0 40 1) Q) : Y cX12_keepBest 3 RX12 (d + 1) sx 0 [some (vr 12 0), some (vi a1), none] [] mem Q := by
  refine a_aload_n dX12_keepBest_0 rfl rfl ?_
  refine a_iconst (k := 1) dX12_keepBest_1 (n_lit (by decide)) ?_
  refine pf_X12_328 (Or.inr rfl) dX12_keepBest_2 ?_
  refine a_iconst (k := 0) dX12_keepBest_5 (n_lit (by decide)) ?_
  refine a_istore_n dX12_keepBest_6 rfl (by decide) rfl ?_
  exact h
set_option maxRecDepth 10000 in
theorem sg_X12_keepBest_7 {d : Nat} {sx : Option (List Int)} (a1 : Int) (a2 : Int) (mem : AMem) (Q : Option AV → AMem → Prop) (h : (a1 ≤ a2 → (Q none mem)) ∧ (¬ a1 ≤ a2 → ((0 ≤ a2 ∧ a2 < 5) ∧ ((0 ≤ a2 ∧ a2 < 5) ∧ (Y cX12_keepBest 3 RX12 (d + 1) sx 7 [some (vr 12 0), some (vi a1), some (vi (w32 (a2 + 1)))] [] (upM mem 1338 0 a2 (mem 1337 0 a2)) Q))))) : Y cX12_keepBest 3 RX12 (d + 1) sx 7 [some (vr 12 0), some (vi a1), some (vi a2)] [] mem Q := by
  refine a_iload_n dX12_keepBest_7 rfl rfl ?_
  refine a_iload_n dX12_keepBest_8 rfl rfl ?_
  refine a_icmp_ge (tgt := 30) dX12_keepBest_9 (by decide) ⟨fun c1 => ?_, fun c1 => ?_⟩
  · exact a_vret dX12_keepBest_30 (h.1 c1)
  · refine a_aload_n dX12_keepBest_12 rfl rfl ?_
    refine gf_X12_72 dX12_keepBest_13 ?_
    refine a_iload_n dX12_keepBest_16 rfl rfl ?_
    refine a_aload_n dX12_keepBest_17 rfl rfl ?_
    refine gf_X12_69 dX12_keepBest_18 ?_
    refine a_iload_n dX12_keepBest_21 rfl rfl ?_
    refine a_iald rfl rfl (by decide) rfl dX12_keepBest_22 ⟨(h.2 c1).1, ?_⟩
    refine a_iast rfl rfl (by decide) rfl dX12_keepBest_23 ⟨(h.2 c1).2.1, ?_⟩
    refine a_iinc dX12_keepBest_24 rfl (by decide) rfl ?_
    refine a_goto (tgt := 7) dX12_keepBest_27 (by decide) ?_
    exact (h.2 c1).2.2
set_option maxRecDepth 10000 in
theorem sg_X12_best_0 {d : Nat} {sx : Option (List Int)} (a1 : Int) (a2 : Int) (mem : AMem) (Q : Option AV → AMem → Prop) (h : MtX yX12_in cX12_in 3 (some .boolean) d [vi a1, vi 1, vi 5] mem (fun r m1 => ∃ x3 : Int, r = some (vi x3) ∧ ((x3 = (0 : Int) → (Q (some (vi (-2000000000))) m1)) ∧ (¬ x3 = (0 : Int) → (((-1 : Int) ≤ a2 → (Y cX12_best 5 RX12 (d + 1) sx 25 [some (vr 12 0), some (vi a1), some (vi a2), some (vi 0), none] [] (upM m1 12 0 40 0) Q)) ∧ (¬ (-1 : Int) ≤ a2 → (Q (some (vi (-2000000000))) m1))))))) : Y cX12_best 5 RX12 (d + 1) sx 0 [some (vr 12 0), some (vi a1), some (vi a2), none, none] [] mem Q := by
  refine a_iload_n dX12_best_0 rfl rfl ?_
  refine a_iconst (k := 1) dX12_best_1 (n_lit (by decide)) ?_
  refine a_iconst (k := 5) dX12_best_2 (n_lit (by decide)) ?_
  refine iv_X12_128 dX12_best_3 (Nat.le_of_ble_eq_true rfl) (MtX_mono h (fun r m1 hq => ?_))
  obtain ⟨x3, rfl, h2⟩ := hq
  refine ⟨x3, rfl, ?_⟩
  refine a_if_eq (tgt := 14) dX12_best_6 (by decide) ⟨fun c4 => ?_, fun c4 => ?_⟩
  · refine a_ldcw (k := (-2000000000)) co_X12_331 (n_lit (by decide)) dX12_best_14 ?_
    exact a_iret dX12_best_17 (h2.1 c4)
  · refine a_iload_n dX12_best_9 rfl rfl ?_
    refine a_iconst (k := (-1)) dX12_best_10 (n_lit (by decide)) ?_
    refine a_icmp_ge (tgt := 18) dX12_best_11 (by decide) ⟨fun c5 => ?_, fun c5 => ?_⟩
    · refine a_aload_n dX12_best_18 rfl rfl ?_
      refine a_iconst (k := 0) dX12_best_19 (n_lit (by decide)) ?_
      refine pf_X12_328 (Or.inl rfl) dX12_best_20 ?_
      refine a_iconst (k := 0) dX12_best_23 (n_lit (by decide)) ?_
      refine a_istore_n dX12_best_24 rfl (by decide) rfl ?_
      exact ((h2.2 c4).1 c5)
    · refine a_ldcw (k := (-2000000000)) co_X12_331 (n_lit (by decide)) dX12_best_14 ?_
      exact a_iret dX12_best_17 ((h2.2 c4).2 c5)
set_option maxRecDepth 10000 in
theorem sg_X12_best_25 {d : Nat} {sx : Option (List Int)} (a1 : Int) (a2 : Int) (a3 : Int) (mem : AMem) (Q : Option AV → AMem → Prop) (h : MtX yX12_allMoves cX12_allMoves 3 (some .int) d [vi a1] mem (fun r m1 => ∃ x3 : Int, r = some (vi x3) ∧ ((x3 ≤ a3 → (((0 : Int) ≤ a2 → ((a1 ≤ a2 → (Q (some (vi (-2))) m1)) ∧ (¬ a1 ≤ a2 → ((0 ≤ a2 ∧ a2 < 5) ∧ (Q (some (vi (m1 1338 0 a2))) m1))))) ∧ (¬ (0 : Int) ≤ a2 → (Q (some (vi (m1 12 0 39))) m1)))) ∧ (¬ x3 ≤ a3 → (MtX yX12_layMoves cX12_layMoves 5 none d [vr 12 0, vi a1, vi a3] m1 (fun r m7 => r = none ∧ (MtX yX12_goMoves cX12_goMoves 2 none d [vr 12 0, vi a1] m7 (fun r m9 => r = none ∧ (MtX yX12_pointsNow cX12_pointsNow 1 (some .int) d [vr 12 0] m9 (fun r m11 => ∃ x13 : Int, r = some (vi x13) ∧ (MtX yX12_theirsNow cX12_theirsNow 1 (some .int) d [vr 12 0] m11 (fun r m14 => ∃ x16 : Int, r = some (vi x16) ∧ (((m14 12 0 40) = (0 : Int) → (MtX yX12_keepBest cX12_keepBest 3 none d [vr 12 0, vi a1] (upM m14 12 0 39 (w32 (x13 - x16))) (fun r m18 => r = none ∧ (Y cX12_best 5 RX12 (d + 1) sx 25 [some (vr 12 0), some (vi a1), some (vi a2), some (vi (w32 (a3 + 1))), some (vi (w32 (x13 - x16)))] [] m18 Q)))) ∧ (¬ (m14 12 0 40) = (0 : Int) → (((m14 12 0 39) < (w32 (x13 - x16)) → (MtX yX12_keepBest cX12_keepBest 3 none d [vr 12 0, vi a1] (upM m14 12 0 39 (w32 (x13 - x16))) (fun r m21 => r = none ∧ (Y cX12_best 5 RX12 (d + 1) sx 25 [some (vr 12 0), some (vi a1), some (vi a2), some (vi (w32 (a3 + 1))), some (vi (w32 (x13 - x16)))] [] m21 Q)))) ∧ (¬ (m14 12 0 39) < (w32 (x13 - x16)) → (Y cX12_best 5 RX12 (d + 1) sx 25 [some (vr 12 0), some (vi a1), some (vi a2), some (vi (w32 (a3 + 1))), some (vi (w32 (x13 - x16)))] [] m14 Q))))))))))))))))) : Y cX12_best 5 RX12 (d + 1) sx 25 [some (vr 12 0), some (vi a1), some (vi a2), some (vi a3), none] [] mem Q := by
  refine a_iload_n dX12_best_25 rfl rfl ?_
  refine a_iload_n dX12_best_26 rfl rfl ?_
  refine iv_X12_332 dX12_best_27 (Nat.le_of_ble_eq_true rfl) (MtX_mono h (fun r m1 hq => ?_))
  obtain ⟨x3, rfl, h2⟩ := hq
  refine ⟨x3, rfl, ?_⟩
  refine a_icmp_ge (tgt := 91) dX12_best_30 (by decide) ⟨fun c4 => ?_, fun c4 => ?_⟩
  · refine a_iload_n dX12_best_91 rfl rfl ?_
    refine a_if_ge (tgt := 102) dX12_best_92 (by decide) ⟨fun c5 => ?_, fun c5 => ?_⟩
    · refine a_iload_n dX12_best_102 rfl rfl ?_
      refine a_iload_n dX12_best_103 rfl rfl ?_
      refine a_icmp_ge (tgt := 116) dX12_best_104 (by decide) ⟨fun c6 => ?_, fun c6 => ?_⟩
      · refine a_bipush (k := (-2)) dX12_best_116 (by decide) (n_lit (by decide)) ?_
        exact a_iret dX12_best_118 (((h2.1 c4).1 c5).1 c6)
      · refine a_aload_n dX12_best_107 rfl rfl ?_
        refine gf_X12_72 dX12_best_108 ?_
        refine a_iload_n dX12_best_111 rfl rfl ?_
        refine a_iald rfl rfl (by decide) rfl dX12_best_112 ⟨(((h2.1 c4).1 c5).2 c6).1, ?_⟩
        refine a_goto (tgt := 118) dX12_best_113 (by decide) ?_
        exact a_iret dX12_best_118 (((h2.1 c4).1 c5).2 c6).2
    · refine a_aload_n dX12_best_95 rfl rfl ?_
      refine gf_X12_341 (x := m1 12 0 39) rfl dX12_best_96 ?_
      refine a_goto (tgt := 118) dX12_best_99 (by decide) ?_
      exact a_iret dX12_best_118 ((h2.1 c4).2 c5)
  · refine a_aload_n dX12_best_33 rfl rfl ?_
    refine a_iload_n dX12_best_34 rfl rfl ?_
    refine a_iload_n dX12_best_35 rfl rfl ?_
    refine iv_X12_335 dX12_best_36 (Nat.le_of_ble_eq_true rfl) (MtX_mono (h2.2 c4) (fun r m7 hq => ?_))
    obtain ⟨rfl, h8⟩ := hq
    refine ⟨rfl, ?_⟩
    refine a_aload_n dX12_best_39 rfl rfl ?_
    refine a_iload_n dX12_best_40 rfl rfl ?_
    refine iv_X12_338 dX12_best_41 (Nat.le_of_ble_eq_true rfl) (MtX_mono h8 (fun r m9 hq => ?_))
    obtain ⟨rfl, h10⟩ := hq
    refine ⟨rfl, ?_⟩
    refine a_aload_n dX12_best_44 rfl rfl ?_
    refine iv_X12_322 dX12_best_45 (Nat.le_of_ble_eq_true rfl) (MtX_mono h10 (fun r m11 hq => ?_))
    obtain ⟨x13, rfl, h12⟩ := hq
    refine ⟨x13, rfl, ?_⟩
    refine a_aload_n dX12_best_48 rfl rfl ?_
    refine iv_X12_325 dX12_best_49 (Nat.le_of_ble_eq_true rfl) (MtX_mono h12 (fun r m14 hq => ?_))
    obtain ⟨x16, rfl, h15⟩ := hq
    refine ⟨x16, rfl, ?_⟩
    refine a_isub dX12_best_52 ?_
    refine a_istore dX12_best_53 (by decide) rfl ?_
    refine a_aload_n dX12_best_55 rfl rfl ?_
    refine gf_X12_328 (x := m14 12 0 40) rfl dX12_best_56 ?_
    refine a_if_eq (tgt := 74) dX12_best_59 (by decide) ⟨fun c17 => ?_, fun c17 => ?_⟩
    · refine a_aload_n dX12_best_74 rfl rfl ?_
      refine a_iload dX12_best_75 rfl ?_
      refine pf_X12_341 dX12_best_77 ?_
      refine a_aload_n dX12_best_80 rfl rfl ?_
      refine a_iload_n dX12_best_81 rfl rfl ?_
      refine iv_X12_344 dX12_best_82 (Nat.le_of_ble_eq_true rfl) (MtX_mono (h15.1 c17) (fun r m18 hq => ?_))
      obtain ⟨rfl, h19⟩ := hq
      refine ⟨rfl, ?_⟩
      refine a_iinc dX12_best_85 rfl (by decide) rfl ?_
      refine a_goto (tgt := 25) dX12_best_88 (by decide) ?_
      exact h19
    · refine a_iload dX12_best_62 rfl ?_
      refine a_aload_n dX12_best_64 rfl rfl ?_
      refine gf_X12_341 (x := m14 12 0 39) rfl dX12_best_65 ?_
      refine a_icmp_gt (tgt := 74) dX12_best_68 (by decide) ⟨fun c20 => ?_, fun c20 => ?_⟩
      · refine a_aload_n dX12_best_74 rfl rfl ?_
        refine a_iload dX12_best_75 rfl ?_
        refine pf_X12_341 dX12_best_77 ?_
        refine a_aload_n dX12_best_80 rfl rfl ?_
        refine a_iload_n dX12_best_81 rfl rfl ?_
        refine iv_X12_344 dX12_best_82 (Nat.le_of_ble_eq_true rfl) (MtX_mono ((h15.2 c17).1 c20) (fun r m21 hq => ?_))
        obtain ⟨rfl, h22⟩ := hq
        refine ⟨rfl, ?_⟩
        refine a_iinc dX12_best_85 rfl (by decide) rfl ?_
        refine a_goto (tgt := 25) dX12_best_88 (by decide) ?_
        exact h22
      · refine a_goto (tgt := 85) dX12_best_71 (by decide) ?_
        refine a_iinc dX12_best_85 rfl (by decide) rfl ?_
        refine a_goto (tgt := 25) dX12_best_88 (by decide) ?_
        exact ((h15.2 c17).2 c20)
set_option maxRecDepth 10000 in
theorem sg_X12_findTouch_0 {d : Nat} {sx : Option (List Int)} (a1 : Int) (mem : AMem) (Q : Option AV → AMem → Prop) (h : Y cX12_findTouch 3 RX12 (d + 1) sx 2 [some (vr 12 0), some (vi a1), some (vi 0)] [] mem Q) : Y cX12_findTouch 3 RX12 (d + 1) sx 0 [some (vr 12 0), some (vi a1), none] [] mem Q := by
  refine a_iconst (k := 0) dX12_findTouch_0 (n_lit (by decide)) ?_
  refine a_istore_n dX12_findTouch_1 rfl (by decide) rfl ?_
  exact h
set_option maxRecDepth 10000 in
theorem sg_X12_findTouch_2 {d : Nat} {sx : Option (List Int)} (a1 : Int) (a2 : Int) (mem : AMem) (Q : Option AV → AMem → Prop) (h : MtX yX12_allMoves cX12_allMoves 3 (some .int) d [vi a1] mem (fun r m1 => ∃ x3 : Int, r = some (vi x3) ∧ ((x3 ≤ a2 → (Q (some (vi 0)) m1)) ∧ (¬ x3 ≤ a2 → (MtX yX12_layMoves cX12_layMoves 5 none d [vr 12 0, vi a1, vi a2] m1 (fun r m5 => r = none ∧ (MtX yX12_goMoves cX12_goMoves 2 none d [vr 12 0, vi a1] m5 (fun r m7 => r = none ∧ (((m7 12 0 32) ≠ (1 : Int) → (Y cX12_findTouch 3 RX12 (d + 1) sx 2 [some (vr 12 0), some (vi a1), some (vi (w32 (a2 + 1)))] [] m7 Q)) ∧ ((m7 12 0 32) = (1 : Int) → (((an32 (shr32 (m7 12 0 33) (m7 12 0 41)) 1) ≠ (0 : Int) → (MtX yX12_keepBest cX12_keepBest 3 none d [vr 12 0, vi a1] m7 (fun r m11 => r = none ∧ (Q (some (vi 1)) m11)))) ∧ ((an32 (shr32 (m7 12 0 33) (m7 12 0 41)) 1) = (0 : Int) → (Y cX12_findTouch 3 RX12 (d + 1) sx 2 [some (vr 12 0), some (vi a1), some (vi (w32 (a2 + 1)))] [] m7 Q))))))))))))) : Y cX12_findTouch 3 RX12 (d + 1) sx 2 [some (vr 12 0), some (vi a1), some (vi a2)] [] mem Q := by
  refine a_iload_n dX12_findTouch_2 rfl rfl ?_
  refine a_iload_n dX12_findTouch_3 rfl rfl ?_
  refine iv_X12_332 dX12_findTouch_4 (Nat.le_of_ble_eq_true rfl) (MtX_mono h (fun r m1 hq => ?_))
  obtain ⟨x3, rfl, h2⟩ := hq
  refine ⟨x3, rfl, ?_⟩
  refine a_icmp_ge (tgt := 59) dX12_findTouch_7 (by decide) ⟨fun c4 => ?_, fun c4 => ?_⟩
  · refine a_iconst (k := 0) dX12_findTouch_59 (n_lit (by decide)) ?_
    exact a_iret dX12_findTouch_60 (h2.1 c4)
  · refine a_aload_n dX12_findTouch_10 rfl rfl ?_
    refine a_iload_n dX12_findTouch_11 rfl rfl ?_
    refine a_iload_n dX12_findTouch_12 rfl rfl ?_
    refine iv_X12_335 dX12_findTouch_13 (Nat.le_of_ble_eq_true rfl) (MtX_mono (h2.2 c4) (fun r m5 hq => ?_))
    obtain ⟨rfl, h6⟩ := hq
    refine ⟨rfl, ?_⟩
    refine a_aload_n dX12_findTouch_16 rfl rfl ?_
    refine a_iload_n dX12_findTouch_17 rfl rfl ?_
    refine iv_X12_338 dX12_findTouch_18 (Nat.le_of_ble_eq_true rfl) (MtX_mono h6 (fun r m7 hq => ?_))
    obtain ⟨rfl, h8⟩ := hq
    refine ⟨rfl, ?_⟩
    refine a_aload_n dX12_findTouch_21 rfl rfl ?_
    refine gf_X12_258 (x := m7 12 0 32) rfl dX12_findTouch_22 ?_
    refine a_iconst (k := 1) dX12_findTouch_25 (n_lit (by decide)) ?_
    refine a_icmp_ne (tgt := 53) dX12_findTouch_26 (by decide) ⟨fun c9 => ?_, fun c9 => ?_⟩
    · refine a_iinc dX12_findTouch_53 rfl (by decide) rfl ?_
      refine a_goto (tgt := 2) dX12_findTouch_56 (by decide) ?_
      exact (h8.1 c9)
    · refine a_aload_n dX12_findTouch_29 rfl rfl ?_
      refine gf_X12_261 (x := m7 12 0 33) rfl dX12_findTouch_30 ?_
      refine a_aload_n dX12_findTouch_33 rfl rfl ?_
      refine gf_X12_347 (x := m7 12 0 41) rfl dX12_findTouch_34 ?_
      refine a_ishr dX12_findTouch_37 ?_
      refine a_iconst (k := 1) dX12_findTouch_38 (n_lit (by decide)) ?_
      refine a_iand dX12_findTouch_39 ?_
      refine a_if_ne (tgt := 46) dX12_findTouch_40 (by decide) ⟨fun c10 => ?_, fun c10 => ?_⟩
      · refine a_aload_n dX12_findTouch_46 rfl rfl ?_
        refine a_iload_n dX12_findTouch_47 rfl rfl ?_
        refine iv_X12_344 dX12_findTouch_48 (Nat.le_of_ble_eq_true rfl) (MtX_mono ((h8.2 c9).1 c10) (fun r m11 hq => ?_))
        obtain ⟨rfl, h12⟩ := hq
        refine ⟨rfl, ?_⟩
        refine a_iconst (k := 1) dX12_findTouch_51 (n_lit (by decide)) ?_
        exact a_iret dX12_findTouch_52 h12
      · refine a_goto (tgt := 53) dX12_findTouch_43 (by decide) ?_
        refine a_iinc dX12_findTouch_53 rfl (by decide) rfl ?_
        refine a_goto (tgt := 2) dX12_findTouch_56 (by decide) ?_
        exact ((h8.2 c9).2 c10)
set_option maxRecDepth 10000 in
theorem sg_X12_touch_0 {d : Nat} {sx : Option (List Int)} (a1 : Int) (a2 : Int) (mem : AMem) (Q : Option AV → AMem → Prop) (h : MtX yX12_isDefender cX12_isDefender 2 (some .boolean) d [vr 12 0, vi a1] mem (fun r m1 => ∃ x3 : Int, r = some (vi x3) ∧ ((x3 = (0 : Int) → (Q (some (vi (-1))) m1)) ∧ (¬ x3 = (0 : Int) → ((0 ≤ a1 ∧ a1 < 7) ∧ (((m1 1305 0 a1) = (0 : Int) → (Q (some (vi (-1))) m1)) ∧ (¬ (m1 1305 0 a1) = (0 : Int) → (((-1 : Int) ≤ a2 → (Y cX12_touch 4 RX12 (d + 1) sx 31 [some (vr 12 0), some (vi a1), some (vi a2), some (vi 1)] [] (upM m1 12 0 41 a1) Q)) ∧ (¬ (-1 : Int) ≤ a2 → (Q (some (vi (-1))) m1)))))))))) : Y cX12_touch 4 RX12 (d + 1) sx 0 [some (vr 12 0), some (vi a1), some (vi a2), none] [] mem Q := by
  refine a_aload_n dX12_touch_0 rfl rfl ?_
  refine a_iload_n dX12_touch_1 rfl rfl ?_
  refine iv_X12_162 dX12_touch_2 (Nat.le_of_ble_eq_true rfl) (MtX_mono h (fun r m1 hq => ?_))
  obtain ⟨x3, rfl, h2⟩ := hq
  refine ⟨x3, rfl, ?_⟩
  refine a_if_eq (tgt := 22) dX12_touch_5 (by decide) ⟨fun c4 => ?_, fun c4 => ?_⟩
  · refine a_iconst (k := (-1)) dX12_touch_22 (n_lit (by decide)) ?_
    exact a_iret dX12_touch_23 (h2.1 c4)
  · refine a_aload_n dX12_touch_8 rfl rfl ?_
    refine gf_X12_19 dX12_touch_9 ?_
    refine a_iload_n dX12_touch_12 rfl rfl ?_
    refine a_iald rfl rfl (by decide) rfl dX12_touch_13 ⟨(h2.2 c4).1, ?_⟩
    refine a_if_eq (tgt := 22) dX12_touch_14 (by decide) ⟨fun c5 => ?_, fun c5 => ?_⟩
    · refine a_iconst (k := (-1)) dX12_touch_22 (n_lit (by decide)) ?_
      exact a_iret dX12_touch_23 ((h2.2 c4).2.1 c5)
    · refine a_iload_n dX12_touch_17 rfl rfl ?_
      refine a_iconst (k := (-1)) dX12_touch_18 (n_lit (by decide)) ?_
      refine a_icmp_ge (tgt := 24) dX12_touch_19 (by decide) ⟨fun c6 => ?_, fun c6 => ?_⟩
      · refine a_aload_n dX12_touch_24 rfl rfl ?_
        refine a_iload_n dX12_touch_25 rfl rfl ?_
        refine pf_X12_347 dX12_touch_26 ?_
        refine a_iconst (k := 1) dX12_touch_29 (n_lit (by decide)) ?_
        refine a_istore_n dX12_touch_30 rfl (by decide) rfl ?_
        exact (((h2.2 c4).2.2 c5).1 c6)
      · refine a_iconst (k := (-1)) dX12_touch_22 (n_lit (by decide)) ?_
        exact a_iret dX12_touch_23 (((h2.2 c4).2.2 c5).2 c6)
set_option maxRecDepth 10000 in
theorem sg_X12_touch_31 {d : Nat} {sx : Option (List Int)} (a1 : Int) (a2 : Int) (a3 : Int) (mem : AMem) (Q : Option AV → AMem → Prop) (h : ((5 : Int) < a3 → (Q (some (vi (-2))) mem)) ∧ (¬ (5 : Int) < a3 → (MtX yX12_findTouch cX12_findTouch 3 (some .boolean) d [vr 12 0, vi a3] mem (fun r m2 => ∃ x4 : Int, r = some (vi x4) ∧ ((x4 = (0 : Int) → (Y cX12_touch 4 RX12 (d + 1) sx 31 [some (vr 12 0), some (vi a1), some (vi a2), some (vi (w32 (a3 + 1)))] [] m2 Q)) ∧ (¬ x4 = (0 : Int) → (((0 : Int) ≤ a2 → ((a3 ≤ a2 → (Q (some (vi (-2))) m2)) ∧ (¬ a3 ≤ a2 → ((0 ≤ a2 ∧ a2 < 5) ∧ (Q (some (vi (m2 1338 0 a2))) m2))))) ∧ (¬ (0 : Int) ≤ a2 → (Q (some (vi a3)) m2))))))))) : Y cX12_touch 4 RX12 (d + 1) sx 31 [some (vr 12 0), some (vi a1), some (vi a2), some (vi a3)] [] mem Q := by
  refine a_iload_n dX12_touch_31 rfl rfl ?_
  refine a_iconst (k := 5) dX12_touch_32 (n_lit (by decide)) ?_
  refine a_icmp_gt (tgt := 75) dX12_touch_33 (by decide) ⟨fun c1 => ?_, fun c1 => ?_⟩
  · refine a_bipush (k := (-2)) dX12_touch_75 (by decide) (n_lit (by decide)) ?_
    exact a_iret dX12_touch_77 (h.1 c1)
  · refine a_aload_n dX12_touch_36 rfl rfl ?_
    refine a_iload_n dX12_touch_37 rfl rfl ?_
    refine iv_X12_350 dX12_touch_38 (Nat.le_of_ble_eq_true rfl) (MtX_mono (h.2 c1) (fun r m2 hq => ?_))
    obtain ⟨x4, rfl, h3⟩ := hq
    refine ⟨x4, rfl, ?_⟩
    refine a_if_eq (tgt := 69) dX12_touch_41 (by decide) ⟨fun c5 => ?_, fun c5 => ?_⟩
    · refine a_iinc dX12_touch_69 rfl (by decide) rfl ?_
      refine a_goto (tgt := 31) dX12_touch_72 (by decide) ?_
      exact (h3.1 c5)
    · refine a_iload_n dX12_touch_44 rfl rfl ?_
      refine a_if_ge (tgt := 52) dX12_touch_45 (by decide) ⟨fun c6 => ?_, fun c6 => ?_⟩
      · refine a_iload_n dX12_touch_52 rfl rfl ?_
        refine a_iload_n dX12_touch_53 rfl rfl ?_
        refine a_icmp_ge (tgt := 66) dX12_touch_54 (by decide) ⟨fun c7 => ?_, fun c7 => ?_⟩
        · refine a_bipush (k := (-2)) dX12_touch_66 (by decide) (n_lit (by decide)) ?_
          exact a_iret dX12_touch_68 (((h3.2 c5).1 c6).1 c7)
        · refine a_aload_n dX12_touch_57 rfl rfl ?_
          refine gf_X12_72 dX12_touch_58 ?_
          refine a_iload_n dX12_touch_61 rfl rfl ?_
          refine a_iald rfl rfl (by decide) rfl dX12_touch_62 ⟨(((h3.2 c5).1 c6).2 c7).1, ?_⟩
          refine a_goto (tgt := 68) dX12_touch_63 (by decide) ?_
          exact a_iret dX12_touch_68 (((h3.2 c5).1 c6).2 c7).2
      · refine a_iload_n dX12_touch_48 rfl rfl ?_
        refine a_goto (tgt := 68) dX12_touch_49 (by decide) ?_
        exact a_iret dX12_touch_68 ((h3.2 c5).2 c6)
set_option maxRecDepth 10000 in
theorem sg_X12_needs_0 {d : Nat} {sx : Option (List Int)} (a1 : Int) (mem : AMem) (Q : Option AV → AMem → Prop) (h : MtX yX12_isShelf cX12_isShelf 1 (some .boolean) d [vi a1] mem (fun r m1 => ∃ x3 : Int, r = some (vi x3) ∧ ((x3 ≠ (0 : Int) → (MtX yX12_rowFault cX12_rowFault 2 (some .int) d [vr 12 0, vi a1] m1 (fun r m5 => ∃ x7 : Int, r = some (vi x7) ∧ (((0 : Int) ≤ x7 → ((0 ≤ (0 : Int) ∧ (0 : Int) < 10) ∧ ((0 ≤ (0 : Int) ∧ (0 : Int) < 10) ∧ (MtX yX12_goRaid cX12_goRaid 3 none d [vr 12 0, vi a1, vi 60] (upM m5 1306 0 0 60) (fun r m9 => r = none ∧ ((0 ≤ (0 : Int) ∧ (0 : Int) < 10) ∧ (((m9 12 0 32) ≠ (1 : Int) → (Q (some (vi (-2))) (upM m9 1306 0 0 (m5 1306 0 0)))) ∧ ((m9 12 0 32) = (1 : Int) → (Q (some (vi (m9 12 0 31))) (upM m9 1306 0 0 (m5 1306 0 0))))))))))) ∧ (¬ (0 : Int) ≤ x7 → (MtX yX12_rowFault cX12_rowFault 2 (some .int) d [vr 12 0, vi a1] m5 (fun r m12 => ∃ x14 : Int, r = some (vi x14) ∧ (Q (some (vi x14)) m12)))))))) ∧ (x3 = (0 : Int) → (Q (some (vi (-1))) m1))))) : Y cX12_needs 3 RX12 (d + 1) sx 0 [some (vr 12 0), some (vi a1), none] [] mem Q := by
  refine a_iload_n dX12_needs_0 rfl rfl ?_
  refine iv_X12_143 dX12_needs_1 (Nat.le_of_ble_eq_true rfl) (MtX_mono h (fun r m1 hq => ?_))
  obtain ⟨x3, rfl, h2⟩ := hq
  refine ⟨x3, rfl, ?_⟩
  refine a_if_ne (tgt := 9) dX12_needs_4 (by decide) ⟨fun c4 => ?_, fun c4 => ?_⟩
  · refine a_aload_n dX12_needs_9 rfl rfl ?_
    refine a_iload_n dX12_needs_10 rfl rfl ?_
    refine iv_X12_316 dX12_needs_11 (Nat.le_of_ble_eq_true rfl) (MtX_mono (h2.1 c4) (fun r m5 hq => ?_))
    obtain ⟨x7, rfl, h6⟩ := hq
    refine ⟨x7, rfl, ?_⟩
    refine a_if_ge (tgt := 23) dX12_needs_14 (by decide) ⟨fun c8 => ?_, fun c8 => ?_⟩
    · refine a_aload_n dX12_needs_23 rfl rfl ?_
      refine gf_X12_22 dX12_needs_24 ?_
      refine a_iconst (k := 0) dX12_needs_27 (n_lit (by decide)) ?_
      refine a_iald rfl rfl (by decide) rfl dX12_needs_28 ⟨(h6.1 c8).1, ?_⟩
      refine a_istore_n dX12_needs_29 rfl (by decide) rfl ?_
      refine a_aload_n dX12_needs_30 rfl rfl ?_
      refine gf_X12_22 dX12_needs_31 ?_
      refine a_iconst (k := 0) dX12_needs_34 (n_lit (by decide)) ?_
      refine a_bipush (k := 60) dX12_needs_35 (by decide) (n_lit (by decide)) ?_
      refine a_iast rfl rfl (by decide) rfl dX12_needs_37 ⟨(h6.1 c8).2.1, ?_⟩
      refine a_aload_n dX12_needs_38 rfl rfl ?_
      refine a_iload_n dX12_needs_39 rfl rfl ?_
      refine a_bipush (k := 60) dX12_needs_40 (by decide) (n_lit (by decide)) ?_
      refine iv_X12_319 dX12_needs_42 (Nat.le_of_ble_eq_true rfl) (MtX_mono (h6.1 c8).2.2 (fun r m9 hq => ?_))
      obtain ⟨rfl, h10⟩ := hq
      refine ⟨rfl, ?_⟩
      refine a_aload_n dX12_needs_45 rfl rfl ?_
      refine gf_X12_22 dX12_needs_46 ?_
      refine a_iconst (k := 0) dX12_needs_49 (n_lit (by decide)) ?_
      refine a_iload_n dX12_needs_50 rfl rfl ?_
      refine a_iast rfl rfl (by decide) rfl dX12_needs_51 ⟨h10.1, ?_⟩
      refine a_aload_n dX12_needs_52 rfl rfl ?_
      refine gf_X12_258 (x := m9 12 0 32) rfl dX12_needs_53 ?_
      refine a_iconst (k := 1) dX12_needs_56 (n_lit (by decide)) ?_
      refine a_icmp_ne (tgt := 67) dX12_needs_57 (by decide) ⟨fun c11 => ?_, fun c11 => ?_⟩
      · refine a_bipush (k := (-2)) dX12_needs_67 (by decide) (n_lit (by decide)) ?_
        exact a_iret dX12_needs_69 (h10.2.1 c11)
      · refine a_aload_n dX12_needs_60 rfl rfl ?_
        refine gf_X12_255 (x := m9 12 0 31) rfl dX12_needs_61 ?_
        refine a_goto (tgt := 69) dX12_needs_64 (by decide) ?_
        exact a_iret dX12_needs_69 (h10.2.2 c11)
    · refine a_aload_n dX12_needs_17 rfl rfl ?_
      refine a_iload_n dX12_needs_18 rfl rfl ?_
      refine iv_X12_316 dX12_needs_19 (Nat.le_of_ble_eq_true rfl) (MtX_mono (h6.2 c8) (fun r m12 hq => ?_))
      obtain ⟨x14, rfl, h13⟩ := hq
      refine ⟨x14, rfl, ?_⟩
      exact a_iret dX12_needs_22 h13
  · refine a_iconst (k := (-1)) dX12_needs_7 (n_lit (by decide)) ?_
    exact a_iret dX12_needs_8 (h2.2 c4)
set_option maxRecDepth 10000 in
theorem sg_X12_spared_0 {d : Nat} {sx : Option (List Int)} (a1 : Int) (mem : AMem) (Q : Option AV → AMem → Prop) (h : MtX yX12_isShelf cX12_isShelf 1 (some .boolean) d [vi a1] mem (fun r m1 => ∃ x3 : Int, r = some (vi x3) ∧ ((x3 ≠ (0 : Int) → (MtX yX12_rowFault cX12_rowFault 2 (some .int) d [vr 12 0, vi a1] m1 (fun r m5 => ∃ x7 : Int, r = some (vi x7) ∧ (((0 : Int) ≤ x7 → (MtX yX12_goRaid cX12_goRaid 3 none d [vr 12 0, vi a1, vi 60] m5 (fun r m9 => r = none ∧ (((m9 12 0 32) = (2 : Int) → (Y cX12_spared 4 RX12 (d + 1) sx 44 [some (vr 12 0), some (vi a1), some (vi 0), some (vi 0)] [] m9 Q)) ∧ (¬ (m9 12 0 32) = (2 : Int) → (Q (some (vi 0)) m9)))))) ∧ (¬ (0 : Int) ≤ x7 → (MtX yX12_rowFault cX12_rowFault 2 (some .int) d [vr 12 0, vi a1] m5 (fun r m12 => ∃ x14 : Int, r = some (vi x14) ∧ (Q (some (vi x14)) m12)))))))) ∧ (x3 = (0 : Int) → (Q (some (vi (-1))) m1))))) : Y cX12_spared 4 RX12 (d + 1) sx 0 [some (vr 12 0), some (vi a1), none, none] [] mem Q := by
  refine a_iload_n dX12_spared_0 rfl rfl ?_
  refine iv_X12_143 dX12_spared_1 (Nat.le_of_ble_eq_true rfl) (MtX_mono h (fun r m1 hq => ?_))
  obtain ⟨x3, rfl, h2⟩ := hq
  refine ⟨x3, rfl, ?_⟩
  refine a_if_ne (tgt := 9) dX12_spared_4 (by decide) ⟨fun c4 => ?_, fun c4 => ?_⟩
  · refine a_aload_n dX12_spared_9 rfl rfl ?_
    refine a_iload_n dX12_spared_10 rfl rfl ?_
    refine iv_X12_316 dX12_spared_11 (Nat.le_of_ble_eq_true rfl) (MtX_mono (h2.1 c4) (fun r m5 hq => ?_))
    obtain ⟨x7, rfl, h6⟩ := hq
    refine ⟨x7, rfl, ?_⟩
    refine a_if_ge (tgt := 23) dX12_spared_14 (by decide) ⟨fun c8 => ?_, fun c8 => ?_⟩
    · refine a_aload_n dX12_spared_23 rfl rfl ?_
      refine a_iload_n dX12_spared_24 rfl rfl ?_
      refine a_bipush (k := 60) dX12_spared_25 (by decide) (n_lit (by decide)) ?_
      refine iv_X12_319 dX12_spared_27 (Nat.le_of_ble_eq_true rfl) (MtX_mono (h6.1 c8) (fun r m9 hq => ?_))
      obtain ⟨rfl, h10⟩ := hq
      refine ⟨rfl, ?_⟩
      refine a_aload_n dX12_spared_30 rfl rfl ?_
      refine gf_X12_258 (x := m9 12 0 32) rfl dX12_spared_31 ?_
      refine a_iconst (k := 2) dX12_spared_34 (n_lit (by decide)) ?_
      refine a_icmp_eq (tgt := 40) dX12_spared_35 (by decide) ⟨fun c11 => ?_, fun c11 => ?_⟩
      · refine a_iconst (k := 0) dX12_spared_40 (n_lit (by decide)) ?_
        refine a_istore_n dX12_spared_41 rfl (by decide) rfl ?_
        refine a_iconst (k := 0) dX12_spared_42 (n_lit (by decide)) ?_
        refine a_istore_n dX12_spared_43 rfl (by decide) rfl ?_
        exact (h10.1 c11)
      · refine a_iconst (k := 0) dX12_spared_38 (n_lit (by decide)) ?_
        exact a_iret dX12_spared_39 (h10.2 c11)
    · refine a_aload_n dX12_spared_17 rfl rfl ?_
      refine a_iload_n dX12_spared_18 rfl rfl ?_
      refine iv_X12_316 dX12_spared_19 (Nat.le_of_ble_eq_true rfl) (MtX_mono (h6.2 c8) (fun r m12 hq => ?_))
      obtain ⟨x14, rfl, h13⟩ := hq
      refine ⟨x14, rfl, ?_⟩
      exact a_iret dX12_spared_22 h13
  · refine a_iconst (k := (-1)) dX12_spared_7 (n_lit (by decide)) ?_
    exact a_iret dX12_spared_8 (h2.2 c4)
set_option maxRecDepth 10000 in
theorem sg_X12_spared_44 {d : Nat} {sx : Option (List Int)} (a1 : Int) (a2 : Int) (a3 : Int) (mem : AMem) (Q : Option AV → AMem → Prop) (h : ((mem 12 0 1) ≤ a3 → (Q (some (vi a2)) mem)) ∧ (¬ (mem 12 0 1) ≤ a3 → ((0 ≤ a3 ∧ a3 < 7) ∧ (((mem 1305 0 a3) ≠ (0 : Int) → ((0 ≤ a3 ∧ a3 < 7) ∧ (MtX yX12_goRaid cX12_goRaid 3 none d [vr 12 0, vi a1, vi 60] (upM mem 1305 0 a3 0) (fun r m3 => r = none ∧ ((0 ≤ a3 ∧ a3 < 7) ∧ (((m3 12 0 32) = (2 : Int) → (Y cX12_spared 4 RX12 (d + 1) sx 44 [some (vr 12 0), some (vi a1), some (vi a2), some (vi (w32 (a3 + 1)))] [] (upM m3 1305 0 a3 1) Q)) ∧ (¬ (m3 12 0 32) = (2 : Int) → (Y cX12_spared 4 RX12 (d + 1) sx 44 [some (vr 12 0), some (vi a1), some (vi (or_32 a2 (shl32 1 a3))), some (vi (w32 (a3 + 1)))] [] (upM m3 1305 0 a3 1) Q)))))))) ∧ ((mem 1305 0 a3) = (0 : Int) → (Y cX12_spared 4 RX12 (d + 1) sx 44 [some (vr 12 0), some (vi a1), some (vi a2), some (vi (w32 (a3 + 1)))] [] mem Q)))))) : Y cX12_spared 4 RX12 (d + 1) sx 44 [some (vr 12 0), some (vi a1), some (vi a2), some (vi a3)] [] mem Q := by
  refine a_iload_n dX12_spared_44 rfl rfl ?_
  refine a_aload_n dX12_spared_45 rfl rfl ?_
  refine gf_X12_125 (x := mem 12 0 1) rfl dX12_spared_46 ?_
  refine a_icmp_ge (tgt := 105) dX12_spared_49 (by decide) ⟨fun c1 => ?_, fun c1 => ?_⟩
  · refine a_iload_n dX12_spared_105 rfl rfl ?_
    exact a_iret dX12_spared_106 (h.1 c1)
  · refine a_aload_n dX12_spared_52 rfl rfl ?_
    refine gf_X12_19 dX12_spared_53 ?_
    refine a_iload_n dX12_spared_56 rfl rfl ?_
    refine a_iald rfl rfl (by decide) rfl dX12_spared_57 ⟨(h.2 c1).1, ?_⟩
    refine a_if_ne (tgt := 64) dX12_spared_58 (by decide) ⟨fun c2 => ?_, fun c2 => ?_⟩
    · refine a_aload_n dX12_spared_64 rfl rfl ?_
      refine gf_X12_19 dX12_spared_65 ?_
      refine a_iload_n dX12_spared_68 rfl rfl ?_
      refine a_iconst (k := 0) dX12_spared_69 (n_lit (by decide)) ?_
      refine a_iast rfl rfl (by decide) rfl dX12_spared_70 ⟨((h.2 c1).2.1 c2).1, ?_⟩
      refine a_aload_n dX12_spared_71 rfl rfl ?_
      refine a_iload_n dX12_spared_72 rfl rfl ?_
      refine a_bipush (k := 60) dX12_spared_73 (by decide) (n_lit (by decide)) ?_
      refine iv_X12_319 dX12_spared_75 (Nat.le_of_ble_eq_true rfl) (MtX_mono ((h.2 c1).2.1 c2).2 (fun r m3 hq => ?_))
      obtain ⟨rfl, h4⟩ := hq
      refine ⟨rfl, ?_⟩
      refine a_aload_n dX12_spared_78 rfl rfl ?_
      refine gf_X12_19 dX12_spared_79 ?_
      refine a_iload_n dX12_spared_82 rfl rfl ?_
      refine a_iconst (k := 1) dX12_spared_83 (n_lit (by decide)) ?_
      refine a_iast rfl rfl (by decide) rfl dX12_spared_84 ⟨h4.1, ?_⟩
      refine a_aload_n dX12_spared_85 rfl rfl ?_
      refine gf_X12_258 (x := m3 12 0 32) rfl dX12_spared_86 ?_
      refine a_iconst (k := 2) dX12_spared_89 (n_lit (by decide)) ?_
      refine a_icmp_eq (tgt := 99) dX12_spared_90 (by decide) ⟨fun c5 => ?_, fun c5 => ?_⟩
      · refine a_iinc dX12_spared_99 rfl (by decide) rfl ?_
        refine a_goto (tgt := 44) dX12_spared_102 (by decide) ?_
        exact (h4.2.1 c5)
      · refine a_iload_n dX12_spared_93 rfl rfl ?_
        refine a_iconst (k := 1) dX12_spared_94 (n_lit (by decide)) ?_
        refine a_iload_n dX12_spared_95 rfl rfl ?_
        refine a_ishl dX12_spared_96 ?_
        refine a_ior dX12_spared_97 ?_
        refine a_istore_n dX12_spared_98 rfl (by decide) rfl ?_
        refine a_iinc dX12_spared_99 rfl (by decide) rfl ?_
        refine a_goto (tgt := 44) dX12_spared_102 (by decide) ?_
        exact (h4.2.2 c5)
    · refine a_goto (tgt := 99) dX12_spared_61 (by decide) ?_
      refine a_iinc dX12_spared_99 rfl (by decide) rfl ?_
      refine a_goto (tgt := 44) dX12_spared_102 (by decide) ?_
      exact ((h.2 c1).2.2 c2)
set_option maxRecDepth 10000 in
theorem sg_X12_stand_0 {d : Nat} {sx : Option (List Int)} (a1 : Int) (a2 : Int) (a3 : Int) (mem : AMem) (Q : Option AV → AMem → Prop) (h : MtX yX12_isShelf cX12_isShelf 1 (some .boolean) d [vi a1] mem (fun r m1 => ∃ x3 : Int, r = some (vi x3) ∧ ((x3 = (0 : Int) → (Q (some (vi (-2000000000))) m1)) ∧ (¬ x3 = (0 : Int) → (MtX yX12_isDefender cX12_isDefender 2 (some .boolean) d [vr 12 0, vi a2] m1 (fun r m5 => ∃ x7 : Int, r = some (vi x7) ∧ ((x7 = (0 : Int) → (Q (some (vi (-2000000000))) m5)) ∧ (¬ x7 = (0 : Int) → ((0 ≤ a2 ∧ a2 < 7) ∧ (((m5 1305 0 a2) = (0 : Int) → (Q (some (vi (-2000000000))) m5)) ∧ (¬ (m5 1305 0 a2) = (0 : Int) → (MtX yX12_in cX12_in 3 (some .boolean) d [vi a3, vi 0, vi 1] m5 (fun r m10 => ∃ x12 : Int, r = some (vi x12) ∧ ((x12 = (0 : Int) → (Q (some (vi (-2000000000))) m10)) ∧ (¬ x12 = (0 : Int) → (MtX yX12_rowFault cX12_rowFault 2 (some .int) d [vr 12 0, vi a1] m10 (fun r m14 => ∃ x16 : Int, r = some (vi x16) ∧ (((0 : Int) ≤ x16 → ((0 ≤ a2 ∧ a2 < 7) ∧ ((0 ≤ a2 ∧ a2 < 7) ∧ (Y cX12_stand 10 RX12 (d + 1) sx 71 [some (vr 12 0), some (vi a1), some (vi a2), some (vi a3), some (vi (m14 1302 0 a2)), some (vi (m14 1303 0 a2)), some (vi (-1)), some (vi 0), some (vi 10), none] [] m14 Q)))) ∧ (¬ (0 : Int) ≤ x16 → (Q (some (vi (-2000000000))) m14)))))))))))))))))))) : Y cX12_stand 10 RX12 (d + 1) sx 0 [some (vr 12 0), some (vi a1), some (vi a2), some (vi a3), none, none, none, none, none, none] [] mem Q := by
  refine a_iload_n dX12_stand_0 rfl rfl ?_
  refine iv_X12_143 dX12_stand_1 (Nat.le_of_ble_eq_true rfl) (MtX_mono h (fun r m1 hq => ?_))
  obtain ⟨x3, rfl, h2⟩ := hq
  refine ⟨x3, rfl, ?_⟩
  refine a_if_eq (tgt := 41) dX12_stand_4 (by decide) ⟨fun c4 => ?_, fun c4 => ?_⟩
  · refine a_ldcw (k := (-2000000000)) co_X12_331 (n_lit (by decide)) dX12_stand_41 ?_
    exact a_iret dX12_stand_44 (h2.1 c4)
  · refine a_aload_n dX12_stand_7 rfl rfl ?_
    refine a_iload_n dX12_stand_8 rfl rfl ?_
    refine iv_X12_162 dX12_stand_9 (Nat.le_of_ble_eq_true rfl) (MtX_mono (h2.2 c4) (fun r m5 hq => ?_))
    obtain ⟨x7, rfl, h6⟩ := hq
    refine ⟨x7, rfl, ?_⟩
    refine a_if_eq (tgt := 41) dX12_stand_12 (by decide) ⟨fun c8 => ?_, fun c8 => ?_⟩
    · refine a_ldcw (k := (-2000000000)) co_X12_331 (n_lit (by decide)) dX12_stand_41 ?_
      exact a_iret dX12_stand_44 (h6.1 c8)
    · refine a_aload_n dX12_stand_15 rfl rfl ?_
      refine gf_X12_19 dX12_stand_16 ?_
      refine a_iload_n dX12_stand_19 rfl rfl ?_
      refine a_iald rfl rfl (by decide) rfl dX12_stand_20 ⟨(h6.2 c8).1, ?_⟩
      refine a_if_eq (tgt := 41) dX12_stand_21 (by decide) ⟨fun c9 => ?_, fun c9 => ?_⟩
      · refine a_ldcw (k := (-2000000000)) co_X12_331 (n_lit (by decide)) dX12_stand_41 ?_
        exact a_iret dX12_stand_44 ((h6.2 c8).2.1 c9)
      · refine a_iload_n dX12_stand_24 rfl rfl ?_
        refine a_iconst (k := 0) dX12_stand_25 (n_lit (by decide)) ?_
        refine a_iconst (k := 1) dX12_stand_26 (n_lit (by decide)) ?_
        refine iv_X12_128 dX12_stand_27 (Nat.le_of_ble_eq_true rfl) (MtX_mono ((h6.2 c8).2.2 c9) (fun r m10 hq => ?_))
        obtain ⟨x12, rfl, h11⟩ := hq
        refine ⟨x12, rfl, ?_⟩
        refine a_if_eq (tgt := 41) dX12_stand_30 (by decide) ⟨fun c13 => ?_, fun c13 => ?_⟩
        · refine a_ldcw (k := (-2000000000)) co_X12_331 (n_lit (by decide)) dX12_stand_41 ?_
          exact a_iret dX12_stand_44 (h11.1 c13)
        · refine a_aload_n dX12_stand_33 rfl rfl ?_
          refine a_iload_n dX12_stand_34 rfl rfl ?_
          refine iv_X12_316 dX12_stand_35 (Nat.le_of_ble_eq_true rfl) (MtX_mono (h11.2 c13) (fun r m14 hq => ?_))
          obtain ⟨x16, rfl, h15⟩ := hq
          refine ⟨x16, rfl, ?_⟩
          refine a_if_ge (tgt := 45) dX12_stand_38 (by decide) ⟨fun c17 => ?_, fun c17 => ?_⟩
          · refine a_aload_n dX12_stand_45 rfl rfl ?_
            refine gf_X12_7 dX12_stand_46 ?_
            refine a_iload_n dX12_stand_49 rfl rfl ?_
            refine a_iald rfl rfl (by decide) rfl dX12_stand_50 ⟨(h15.1 c17).1, ?_⟩
            refine a_istore dX12_stand_51 (by decide) rfl ?_
            refine a_aload_n dX12_stand_53 rfl rfl ?_
            refine gf_X12_13 dX12_stand_54 ?_
            refine a_iload_n dX12_stand_57 rfl rfl ?_
            refine a_iald rfl rfl (by decide) rfl dX12_stand_58 ⟨(h15.1 c17).2.1, ?_⟩
            refine a_istore dX12_stand_59 (by decide) rfl ?_
            refine a_iconst (k := (-1)) dX12_stand_61 (n_lit (by decide)) ?_
            refine a_istore dX12_stand_62 (by decide) rfl ?_
            refine a_iconst (k := 0) dX12_stand_64 (n_lit (by decide)) ?_
            refine a_istore dX12_stand_65 (by decide) rfl ?_
            refine a_bipush (k := 10) dX12_stand_67 (by decide) (n_lit (by decide)) ?_
            refine a_istore dX12_stand_69 (by decide) rfl ?_
            exact (h15.1 c17).2.2
          · refine a_ldcw (k := (-2000000000)) co_X12_331 (n_lit (by decide)) dX12_stand_41 ?_
            exact a_iret dX12_stand_44 (h15.2 c17)
set_option maxRecDepth 10000 in
theorem sg_X12_stand_71 {d : Nat} {sx : Option (List Int)} (a1 : Int) (a2 : Int) (a3 : Int) (a4 : Int) (a5 : Int) (a6 : Int) (a7 : Int) (a8 : Int) (mem : AMem) (Q : Option AV → AMem → Prop) (h : ((89 : Int) ≤ a8 → ((0 ≤ a2 ∧ a2 < 7) ∧ ((0 ≤ a2 ∧ a2 < 7) ∧ ((a3 ≠ (0 : Int) → (Q (some (vi a7)) (upM (upM mem 1302 0 a2 a4) 1303 0 a2 a5))) ∧ (a3 = (0 : Int) → (Q (some (vi a6)) (upM (upM mem 1302 0 a2 a4) 1303 0 a2 a5))))))) ∧ (¬ (89 : Int) ≤ a8 → (MtX yX12_isColumn cX12_isColumn 1 (some .boolean) d [vi (Int.tmod a8 10)] mem (fun r m3 => ∃ x5 : Int, r = some (vi x5) ∧ ((x5 ≠ (0 : Int) → ((0 ≤ a2 ∧ a2 < 7) ∧ ((0 ≤ a2 ∧ a2 < 7) ∧ (MtX yX12_goRaid cX12_goRaid 3 none d [vr 12 0, vi a1, vi 60] (upM (upM m3 1302 0 a2 (Int.tmod a8 10)) 1303 0 a2 (w32 (Int.tdiv a8 10))) (fun r m7 => r = none ∧ (MtX yX12_pointsNow cX12_pointsNow 1 (some .int) d [vr 12 0] m7 (fun r m9 => ∃ x11 : Int, r = some (vi x11) ∧ (MtX yX12_theirsNow cX12_theirsNow 1 (some .int) d [vr 12 0] m9 (fun r m12 => ∃ x14 : Int, r = some (vi x14) ∧ ((a6 < (0 : Int) → (Y cX12_stand 10 RX12 (d + 1) sx 71 [some (vr 12 0), some (vi a1), some (vi a2), some (vi a3), some (vi a4), some (vi a5), some (vi a8), some (vi (w32 (x11 - x14))), some (vi (w32 (a8 + 1))), some (vi (w32 (x11 - x14)))] [] m12 Q)) ∧ (¬ a6 < (0 : Int) → (((w32 (x11 - x14)) < a7 → (Y cX12_stand 10 RX12 (d + 1) sx 71 [some (vr 12 0), some (vi a1), some (vi a2), some (vi a3), some (vi a4), some (vi a5), some (vi a8), some (vi (w32 (x11 - x14))), some (vi (w32 (a8 + 1))), some (vi (w32 (x11 - x14)))] [] m12 Q)) ∧ (¬ (w32 (x11 - x14)) < a7 → (Y cX12_stand 10 RX12 (d + 1) sx 71 [some (vr 12 0), some (vi a1), some (vi a2), some (vi a3), some (vi a4), some (vi a5), some (vi a6), some (vi a7), some (vi (w32 (a8 + 1))), some (vi (w32 (x11 - x14)))] [] m12 Q)))))))))))))) ∧ (x5 = (0 : Int) → (Y cX12_stand 10 RX12 (d + 1) sx 71 [some (vr 12 0), some (vi a1), some (vi a2), some (vi a3), some (vi a4), some (vi a5), some (vi a6), some (vi a7), some (vi (w32 (a8 + 1))), none] [] m3 Q))))))) : Y cX12_stand 10 RX12 (d + 1) sx 71 [some (vr 12 0), some (vi a1), some (vi a2), some (vi a3), some (vi a4), some (vi a5), some (vi a6), some (vi a7), some (vi a8), none] [] mem Q := by
  refine a_iload dX12_stand_71 rfl ?_
  refine a_bipush (k := 89) dX12_stand_73 (by decide) (n_lit (by decide)) ?_
  refine a_icmp_ge (tgt := 161) dX12_stand_75 (by decide) ⟨fun c1 => ?_, fun c1 => ?_⟩
  · refine a_aload_n dX12_stand_161 rfl rfl ?_
    refine gf_X12_7 dX12_stand_162 ?_
    refine a_iload_n dX12_stand_165 rfl rfl ?_
    refine a_iload dX12_stand_166 rfl ?_
    refine a_iast rfl rfl (by decide) rfl dX12_stand_168 ⟨(h.1 c1).1, ?_⟩
    refine a_aload_n dX12_stand_169 rfl rfl ?_
    refine gf_X12_13 dX12_stand_170 ?_
    refine a_iload_n dX12_stand_173 rfl rfl ?_
    refine a_iload dX12_stand_174 rfl ?_
    refine a_iast rfl rfl (by decide) rfl dX12_stand_176 ⟨(h.1 c1).2.1, ?_⟩
    refine a_iload_n dX12_stand_177 rfl rfl ?_
    refine a_if_ne (tgt := 186) dX12_stand_178 (by decide) ⟨fun c2 => ?_, fun c2 => ?_⟩
    · refine a_iload dX12_stand_186 rfl ?_
      exact a_iret dX12_stand_188 ((h.1 c1).2.2.1 c2)
    · refine a_iload dX12_stand_181 rfl ?_
      refine a_goto (tgt := 188) dX12_stand_183 (by decide) ?_
      exact a_iret dX12_stand_188 ((h.1 c1).2.2.2 c2)
  · refine a_iload dX12_stand_78 rfl ?_
    refine a_bipush (k := 10) dX12_stand_80 (by decide) (n_lit (by decide)) ?_
    refine a_irem dX12_stand_82 (by decide) ?_
    refine iv_X12_136 dX12_stand_83 (Nat.le_of_ble_eq_true rfl) (MtX_mono (h.2 c1) (fun r m3 hq => ?_))
    obtain ⟨x5, rfl, h4⟩ := hq
    refine ⟨x5, rfl, ?_⟩
    refine a_if_ne (tgt := 92) dX12_stand_86 (by decide) ⟨fun c6 => ?_, fun c6 => ?_⟩
    · refine a_aload_n dX12_stand_92 rfl rfl ?_
      refine gf_X12_7 dX12_stand_93 ?_
      refine a_iload_n dX12_stand_96 rfl rfl ?_
      refine a_iload dX12_stand_97 rfl ?_
      refine a_bipush (k := 10) dX12_stand_99 (by decide) (n_lit (by decide)) ?_
      refine a_irem dX12_stand_101 (by decide) ?_
      refine a_iast rfl rfl (by decide) rfl dX12_stand_102 ⟨(h4.1 c6).1, ?_⟩
      refine a_aload_n dX12_stand_103 rfl rfl ?_
      refine gf_X12_13 dX12_stand_104 ?_
      refine a_iload_n dX12_stand_107 rfl rfl ?_
      refine a_iload dX12_stand_108 rfl ?_
      refine a_bipush (k := 10) dX12_stand_110 (by decide) (n_lit (by decide)) ?_
      refine a_idiv dX12_stand_112 (by decide) ?_
      refine a_iast rfl rfl (by decide) rfl dX12_stand_113 ⟨(h4.1 c6).2.1, ?_⟩
      refine a_aload_n dX12_stand_114 rfl rfl ?_
      refine a_iload_n dX12_stand_115 rfl rfl ?_
      refine a_bipush (k := 60) dX12_stand_116 (by decide) (n_lit (by decide)) ?_
      refine iv_X12_319 dX12_stand_118 (Nat.le_of_ble_eq_true rfl) (MtX_mono (h4.1 c6).2.2 (fun r m7 hq => ?_))
      obtain ⟨rfl, h8⟩ := hq
      refine ⟨rfl, ?_⟩
      refine a_aload_n dX12_stand_121 rfl rfl ?_
      refine iv_X12_322 dX12_stand_122 (Nat.le_of_ble_eq_true rfl) (MtX_mono h8 (fun r m9 hq => ?_))
      obtain ⟨x11, rfl, h10⟩ := hq
      refine ⟨x11, rfl, ?_⟩
      refine a_aload_n dX12_stand_125 rfl rfl ?_
      refine iv_X12_325 dX12_stand_126 (Nat.le_of_ble_eq_true rfl) (MtX_mono h10 (fun r m12 hq => ?_))
      obtain ⟨x14, rfl, h13⟩ := hq
      refine ⟨x14, rfl, ?_⟩
      refine a_isub dX12_stand_129 ?_
      refine a_istore dX12_stand_130 (by decide) rfl ?_
      refine a_iload dX12_stand_132 rfl ?_
      refine a_if_lt (tgt := 147) dX12_stand_134 (by decide) ⟨fun c15 => ?_, fun c15 => ?_⟩
      · refine a_iload dX12_stand_147 rfl ?_
        refine a_istore dX12_stand_149 (by decide) rfl ?_
        refine a_iload dX12_stand_151 rfl ?_
        refine a_istore dX12_stand_153 (by decide) rfl ?_
        refine a_iinc dX12_stand_155 rfl (by decide) rfl ?_
        refine a_goto (tgt := 71) dX12_stand_158 (by decide) ?_
        exact (h13.1 c15)
      · refine a_iload dX12_stand_137 rfl ?_
        refine a_iload dX12_stand_139 rfl ?_
        refine a_icmp_lt (tgt := 147) dX12_stand_141 (by decide) ⟨fun c16 => ?_, fun c16 => ?_⟩
        · refine a_iload dX12_stand_147 rfl ?_
          refine a_istore dX12_stand_149 (by decide) rfl ?_
          refine a_iload dX12_stand_151 rfl ?_
          refine a_istore dX12_stand_153 (by decide) rfl ?_
          refine a_iinc dX12_stand_155 rfl (by decide) rfl ?_
          refine a_goto (tgt := 71) dX12_stand_158 (by decide) ?_
          exact ((h13.2 c15).1 c16)
        · refine a_goto (tgt := 155) dX12_stand_144 (by decide) ?_
          refine a_iinc dX12_stand_155 rfl (by decide) rfl ?_
          refine a_goto (tgt := 71) dX12_stand_158 (by decide) ?_
          exact ((h13.2 c15).2 c16)
    · refine a_goto (tgt := 155) dX12_stand_89 (by decide) ?_
      refine a_iinc dX12_stand_155 rfl (by decide) rfl ?_
      refine a_goto (tgt := 71) dX12_stand_158 (by decide) ?_
      exact (h4.2 c6)
set_option maxRecDepth 10000 in
theorem sg_X12_mightHe_0 {d : Nat} {sx : Option (List Int)} (a1 : Int) (mem : AMem) (Q : Option AV → AMem → Prop) (h : MtX yX12_isShelf cX12_isShelf 1 (some .boolean) d [vi a1] mem (fun r m1 => ∃ x3 : Int, r = some (vi x3) ∧ ((x3 ≠ (0 : Int) → (MtX yX12_rowFault cX12_rowFault 2 (some .int) d [vr 12 0, vi a1] m1 (fun r m5 => ∃ x7 : Int, r = some (vi x7) ∧ (((0 : Int) ≤ x7 → ((0 ≤ (2 : Int) ∧ (2 : Int) < 10) ∧ (Y cX12_mightHe 5 RX12 (d + 1) sx 36 [some (vr 12 0), some (vi a1), some (vi (m5 1306 0 2)), some (vi (-2)), some (vi 0)] [] m5 Q))) ∧ (¬ (0 : Int) ≤ x7 → (MtX yX12_rowFault cX12_rowFault 2 (some .int) d [vr 12 0, vi a1] m5 (fun r m9 => ∃ x11 : Int, r = some (vi x11) ∧ (Q (some (vi x11)) m9)))))))) ∧ (x3 = (0 : Int) → (Q (some (vi (-1))) m1))))) : Y cX12_mightHe 5 RX12 (d + 1) sx 0 [some (vr 12 0), some (vi a1), none, none, none] [] mem Q := by
  refine a_iload_n dX12_mightHe_0 rfl rfl ?_
  refine iv_X12_143 dX12_mightHe_1 (Nat.le_of_ble_eq_true rfl) (MtX_mono h (fun r m1 hq => ?_))
  obtain ⟨x3, rfl, h2⟩ := hq
  refine ⟨x3, rfl, ?_⟩
  refine a_if_ne (tgt := 9) dX12_mightHe_4 (by decide) ⟨fun c4 => ?_, fun c4 => ?_⟩
  · refine a_aload_n dX12_mightHe_9 rfl rfl ?_
    refine a_iload_n dX12_mightHe_10 rfl rfl ?_
    refine iv_X12_316 dX12_mightHe_11 (Nat.le_of_ble_eq_true rfl) (MtX_mono (h2.1 c4) (fun r m5 hq => ?_))
    obtain ⟨x7, rfl, h6⟩ := hq
    refine ⟨x7, rfl, ?_⟩
    refine a_if_ge (tgt := 23) dX12_mightHe_14 (by decide) ⟨fun c8 => ?_, fun c8 => ?_⟩
    · refine a_aload_n dX12_mightHe_23 rfl rfl ?_
      refine gf_X12_22 dX12_mightHe_24 ?_
      refine a_iconst (k := 2) dX12_mightHe_27 (n_lit (by decide)) ?_
      refine a_iald rfl rfl (by decide) rfl dX12_mightHe_28 ⟨(h6.1 c8).1, ?_⟩
      refine a_istore_n dX12_mightHe_29 rfl (by decide) rfl ?_
      refine a_bipush (k := (-2)) dX12_mightHe_30 (by decide) (n_lit (by decide)) ?_
      refine a_istore_n dX12_mightHe_32 rfl (by decide) rfl ?_
      refine a_iconst (k := 0) dX12_mightHe_33 (n_lit (by decide)) ?_
      refine a_istore dX12_mightHe_34 (by decide) rfl ?_
      exact (h6.1 c8).2
    · refine a_aload_n dX12_mightHe_17 rfl rfl ?_
      refine a_iload_n dX12_mightHe_18 rfl rfl ?_
      refine iv_X12_316 dX12_mightHe_19 (Nat.le_of_ble_eq_true rfl) (MtX_mono (h6.2 c8) (fun r m9 hq => ?_))
      obtain ⟨x11, rfl, h10⟩ := hq
      refine ⟨x11, rfl, ?_⟩
      exact a_iret dX12_mightHe_22 h10
  · refine a_iconst (k := (-1)) dX12_mightHe_7 (n_lit (by decide)) ?_
    exact a_iret dX12_mightHe_8 (h2.2 c4)
set_option maxRecDepth 10000 in
theorem sg_X12_mightHe_36 {d : Nat} {sx : Option (List Int)} (a1 : Int) (a2 : Int) (a3 : Int) (a4 : Int) (mem : AMem) (Q : Option AV → AMem → Prop) (h : ((40 : Int) < a4 → ((0 ≤ (2 : Int) ∧ (2 : Int) < 10) ∧ (Q (some (vi a3)) (upM mem 1306 0 2 a2)))) ∧ (¬ (40 : Int) < a4 → (((0 : Int) ≤ a3 → ((0 ≤ (2 : Int) ∧ (2 : Int) < 10) ∧ (Q (some (vi a3)) (upM mem 1306 0 2 a2)))) ∧ (¬ (0 : Int) ≤ a3 → ((0 ≤ (2 : Int) ∧ (2 : Int) < 10) ∧ (MtX yX12_goRaid cX12_goRaid 3 none d [vr 12 0, vi a1, vi 60] (upM mem 1306 0 2 a4) (fun r m3 => r = none ∧ (((m3 12 0 32) = (2 : Int) → (Y cX12_mightHe 5 RX12 (d + 1) sx 36 [some (vr 12 0), some (vi a1), some (vi a2), some (vi a3), some (vi (w32 (a4 + 1)))] [] m3 Q)) ∧ (¬ (m3 12 0 32) = (2 : Int) → (Y cX12_mightHe 5 RX12 (d + 1) sx 36 [some (vr 12 0), some (vi a1), some (vi a2), some (vi a4), some (vi (w32 (a4 + 1)))] [] m3 Q)))))))))) : Y cX12_mightHe 5 RX12 (d + 1) sx 36 [some (vr 12 0), some (vi a1), some (vi a2), some (vi a3), some (vi a4)] [] mem Q := by
  refine a_iload dX12_mightHe_36 rfl ?_
  refine a_bipush (k := 40) dX12_mightHe_38 (by decide) (n_lit (by decide)) ?_
  refine a_icmp_gt (tgt := 79) dX12_mightHe_40 (by decide) ⟨fun c1 => ?_, fun c1 => ?_⟩
  · refine a_aload_n dX12_mightHe_79 rfl rfl ?_
    refine gf_X12_22 dX12_mightHe_80 ?_
    refine a_iconst (k := 2) dX12_mightHe_83 (n_lit (by decide)) ?_
    refine a_iload_n dX12_mightHe_84 rfl rfl ?_
    refine a_iast rfl rfl (by decide) rfl dX12_mightHe_85 ⟨(h.1 c1).1, ?_⟩
    refine a_iload_n dX12_mightHe_86 rfl rfl ?_
    exact a_iret dX12_mightHe_87 (h.1 c1).2
  · refine a_iload_n dX12_mightHe_43 rfl rfl ?_
    refine a_if_ge (tgt := 79) dX12_mightHe_44 (by decide) ⟨fun c2 => ?_, fun c2 => ?_⟩
    · refine a_aload_n dX12_mightHe_79 rfl rfl ?_
      refine gf_X12_22 dX12_mightHe_80 ?_
      refine a_iconst (k := 2) dX12_mightHe_83 (n_lit (by decide)) ?_
      refine a_iload_n dX12_mightHe_84 rfl rfl ?_
      refine a_iast rfl rfl (by decide) rfl dX12_mightHe_85 ⟨((h.2 c1).1 c2).1, ?_⟩
      refine a_iload_n dX12_mightHe_86 rfl rfl ?_
      exact a_iret dX12_mightHe_87 ((h.2 c1).1 c2).2
    · refine a_aload_n dX12_mightHe_47 rfl rfl ?_
      refine gf_X12_22 dX12_mightHe_48 ?_
      refine a_iconst (k := 2) dX12_mightHe_51 (n_lit (by decide)) ?_
      refine a_iload dX12_mightHe_52 rfl ?_
      refine a_iast rfl rfl (by decide) rfl dX12_mightHe_54 ⟨((h.2 c1).2 c2).1, ?_⟩
      refine a_aload_n dX12_mightHe_55 rfl rfl ?_
      refine a_iload_n dX12_mightHe_56 rfl rfl ?_
      refine a_bipush (k := 60) dX12_mightHe_57 (by decide) (n_lit (by decide)) ?_
      refine iv_X12_319 dX12_mightHe_59 (Nat.le_of_ble_eq_true rfl) (MtX_mono ((h.2 c1).2 c2).2 (fun r m3 hq => ?_))
      obtain ⟨rfl, h4⟩ := hq
      refine ⟨rfl, ?_⟩
      refine a_aload_n dX12_mightHe_62 rfl rfl ?_
      refine gf_X12_258 (x := m3 12 0 32) rfl dX12_mightHe_63 ?_
      refine a_iconst (k := 2) dX12_mightHe_66 (n_lit (by decide)) ?_
      refine a_icmp_eq (tgt := 73) dX12_mightHe_67 (by decide) ⟨fun c5 => ?_, fun c5 => ?_⟩
      · refine a_iinc dX12_mightHe_73 rfl (by decide) rfl ?_
        refine a_goto (tgt := 36) dX12_mightHe_76 (by decide) ?_
        exact (h4.1 c5)
      · refine a_iload dX12_mightHe_70 rfl ?_
        refine a_istore_n dX12_mightHe_72 rfl (by decide) rfl ?_
        refine a_iinc dX12_mightHe_73 rfl (by decide) rfl ?_
        refine a_goto (tgt := 36) dX12_mightHe_76 (by decide) ?_
        exact (h4.2 c5)
set_option maxRecDepth 10000 in
theorem sg_X12_areNear_0 {d : Nat} {sx : Option (List Int)} (a1 : Int) (a2 : Int) (mem : AMem) (Q : Option AV → AMem → Prop) (h : (0 ≤ a1 ∧ a1 < 7) ∧ ((0 ≤ a2 ∧ a2 < 7) ∧ (MtX yX12_apart cX12_apart 2 (some .int) d [vi (mem 1302 0 a1), vi (mem 1302 0 a2)] mem (fun r m1 => ∃ x3 : Int, r = some (vi x3) ∧ ((0 ≤ a1 ∧ a1 < 7) ∧ ((0 ≤ a2 ∧ a2 < 7) ∧ (MtX yX12_apart cX12_apart 2 (some .int) d [vi (m1 1303 0 a1), vi (m1 1303 0 a2)] m1 (fun r m4 => ∃ x6 : Int, r = some (vi x6) ∧ (((1 : Int) < (w32 (x3 + x6)) → (Q (some (vi 0)) m4)) ∧ (¬ (1 : Int) < (w32 (x3 + x6)) → (Q (some (vi 1)) m4))))))))))) : Y cX12_areNear 3 RX12 (d + 1) sx 0 [some (vr 12 0), some (vi a1), some (vi a2)] [] mem Q := by
  refine a_aload_n dX12_areNear_0 rfl rfl ?_
  refine gf_X12_7 dX12_areNear_1 ?_
  refine a_iload_n dX12_areNear_4 rfl rfl ?_
  refine a_iald rfl rfl (by decide) rfl dX12_areNear_5 ⟨h.1, ?_⟩
  refine a_aload_n dX12_areNear_6 rfl rfl ?_
  refine gf_X12_7 dX12_areNear_7 ?_
  refine a_iload_n dX12_areNear_10 rfl rfl ?_
  refine a_iald rfl rfl (by decide) rfl dX12_areNear_11 ⟨h.2.1, ?_⟩
  refine iv_X12_270 dX12_areNear_12 (Nat.le_of_ble_eq_true rfl) (MtX_mono h.2.2 (fun r m1 hq => ?_))
  obtain ⟨x3, rfl, h2⟩ := hq
  refine ⟨x3, rfl, ?_⟩
  refine a_aload_n dX12_areNear_15 rfl rfl ?_
  refine gf_X12_13 dX12_areNear_16 ?_
  refine a_iload_n dX12_areNear_19 rfl rfl ?_
  refine a_iald rfl rfl (by decide) rfl dX12_areNear_20 ⟨h2.1, ?_⟩
  refine a_aload_n dX12_areNear_21 rfl rfl ?_
  refine gf_X12_13 dX12_areNear_22 ?_
  refine a_iload_n dX12_areNear_25 rfl rfl ?_
  refine a_iald rfl rfl (by decide) rfl dX12_areNear_26 ⟨h2.2.1, ?_⟩
  refine iv_X12_270 dX12_areNear_27 (Nat.le_of_ble_eq_true rfl) (MtX_mono h2.2.2 (fun r m4 hq => ?_))
  obtain ⟨x6, rfl, h5⟩ := hq
  refine ⟨x6, rfl, ?_⟩
  refine a_iadd dX12_areNear_30 ?_
  refine a_iconst (k := 1) dX12_areNear_31 (n_lit (by decide)) ?_
  refine a_icmp_gt (tgt := 39) dX12_areNear_32 (by decide) ⟨fun c7 => ?_, fun c7 => ?_⟩
  · refine a_iconst (k := 0) dX12_areNear_39 (n_lit (by decide)) ?_
    exact a_iret dX12_areNear_40 (h5.1 c7)
  · refine a_iconst (k := 1) dX12_areNear_35 (n_lit (by decide)) ?_
    refine a_goto (tgt := 40) dX12_areNear_36 (by decide) ?_
    exact a_iret dX12_areNear_40 (h5.2 c7)
set_option maxRecDepth 10000 in
theorem sg_X12_nearTo_0 {d : Nat} {sx : Option (List Int)} (a1 : Int) (mem : AMem) (Q : Option AV → AMem → Prop) (h : Y cX12_nearTo 5 RX12 (d + 1) sx 4 [some (vr 12 0), some (vi a1), some (vi a1), some (vi 0), none] [] mem Q) : Y cX12_nearTo 5 RX12 (d + 1) sx 0 [some (vr 12 0), some (vi a1), none, none, none] [] mem Q := by
  refine a_iload_n dX12_nearTo_0 rfl rfl ?_
  refine a_istore_n dX12_nearTo_1 rfl (by decide) rfl ?_
  refine a_iconst (k := 0) dX12_nearTo_2 (n_lit (by decide)) ?_
  refine a_istore_n dX12_nearTo_3 rfl (by decide) rfl ?_
  exact h
set_option maxRecDepth 10000 in
theorem sg_X12_nearTo_4 {d : Nat} {sx : Option (List Int)} (a1 : Int) (a2 : Int) (a3 : Int) (mem : AMem) (Q : Option AV → AMem → Prop) (h : ((mem 12 0 1) ≤ a3 → (Q (some (vi a2)) mem)) ∧ (¬ (mem 12 0 1) ≤ a3 → (Y cX12_nearTo 5 RX12 (d + 1) sx 15 [some (vr 12 0), some (vi a1), some (vi a2), some (vi a3), some (vi 0)] [] mem Q))) : Y cX12_nearTo 5 RX12 (d + 1) sx 4 [some (vr 12 0), some (vi a1), some (vi a2), some (vi a3), none] [] mem Q := by
  refine a_iload_n dX12_nearTo_4 rfl rfl ?_
  refine a_aload_n dX12_nearTo_5 rfl rfl ?_
  refine gf_X12_125 (x := mem 12 0 1) rfl dX12_nearTo_6 ?_
  refine a_icmp_ge (tgt := 73) dX12_nearTo_9 (by decide) ⟨fun c1 => ?_, fun c1 => ?_⟩
  · refine a_iload_n dX12_nearTo_73 rfl rfl ?_
    exact a_iret dX12_nearTo_74 (h.1 c1)
  · refine a_iconst (k := 0) dX12_nearTo_12 (n_lit (by decide)) ?_
    refine a_istore dX12_nearTo_13 (by decide) rfl ?_
    exact (h.2 c1)
set_option maxRecDepth 10000 in
theorem sg_X12_nearTo_15 {d : Nat} {sx : Option (List Int)} (a1 : Int) (a2 : Int) (a3 : Int) (a4 : Int) (mem : AMem) (Q : Option AV → AMem → Prop) (h : ((mem 12 0 1) ≤ a4 → (Y cX12_nearTo 5 RX12 (d + 1) sx 4 [some (vr 12 0), some (vi a1), some (vi a2), some (vi (w32 (a3 + 1))), some (vi a4)] [] mem Q)) ∧ (¬ (mem 12 0 1) ≤ a4 → (((an32 (shr32 a1 a3) 1) ≠ (1 : Int) → (Y cX12_nearTo 5 RX12 (d + 1) sx 15 [some (vr 12 0), some (vi a1), some (vi a2), some (vi a3), some (vi (w32 (a4 + 1)))] [] mem Q)) ∧ ((an32 (shr32 a1 a3) 1) = (1 : Int) → ((0 ≤ a4 ∧ a4 < 7) ∧ (((mem 1305 0 a4) ≠ (1 : Int) → (Y cX12_nearTo 5 RX12 (d + 1) sx 15 [some (vr 12 0), some (vi a1), some (vi a2), some (vi a3), some (vi (w32 (a4 + 1)))] [] mem Q)) ∧ ((mem 1305 0 a4) = (1 : Int) → (MtX yX12_areNear cX12_areNear 3 (some .boolean) d [vr 12 0, vi a3, vi a4] mem (fun r m4 => ∃ x6 : Int, r = some (vi x6) ∧ ((x6 = (0 : Int) → (Y cX12_nearTo 5 RX12 (d + 1) sx 15 [some (vr 12 0), some (vi a1), some (vi a2), some (vi a3), some (vi (w32 (a4 + 1)))] [] m4 Q)) ∧ (¬ x6 = (0 : Int) → (Y cX12_nearTo 5 RX12 (d + 1) sx 15 [some (vr 12 0), some (vi a1), some (vi (or_32 a2 (shl32 1 a4))), some (vi a3), some (vi (w32 (a4 + 1)))] [] m4 Q)))))))))))) : Y cX12_nearTo 5 RX12 (d + 1) sx 15 [some (vr 12 0), some (vi a1), some (vi a2), some (vi a3), some (vi a4)] [] mem Q := by
  refine a_iload dX12_nearTo_15 rfl ?_
  refine a_aload_n dX12_nearTo_17 rfl rfl ?_
  refine gf_X12_125 (x := mem 12 0 1) rfl dX12_nearTo_18 ?_
  refine a_icmp_ge (tgt := 67) dX12_nearTo_21 (by decide) ⟨fun c1 => ?_, fun c1 => ?_⟩
  · refine a_iinc dX12_nearTo_67 rfl (by decide) rfl ?_
    refine a_goto (tgt := 4) dX12_nearTo_70 (by decide) ?_
    exact (h.1 c1)
  · refine a_iload_n dX12_nearTo_24 rfl rfl ?_
    refine a_iload_n dX12_nearTo_25 rfl rfl ?_
    refine a_ishr dX12_nearTo_26 ?_
    refine a_iconst (k := 1) dX12_nearTo_27 (n_lit (by decide)) ?_
    refine a_iand dX12_nearTo_28 ?_
    refine a_iconst (k := 1) dX12_nearTo_29 (n_lit (by decide)) ?_
    refine a_icmp_ne (tgt := 61) dX12_nearTo_30 (by decide) ⟨fun c2 => ?_, fun c2 => ?_⟩
    · refine a_iinc dX12_nearTo_61 rfl (by decide) rfl ?_
      refine a_goto (tgt := 15) dX12_nearTo_64 (by decide) ?_
      exact ((h.2 c1).1 c2)
    · refine a_aload_n dX12_nearTo_33 rfl rfl ?_
      refine gf_X12_19 dX12_nearTo_34 ?_
      refine a_iload dX12_nearTo_37 rfl ?_
      refine a_iald rfl rfl (by decide) rfl dX12_nearTo_39 ⟨((h.2 c1).2 c2).1, ?_⟩
      refine a_iconst (k := 1) dX12_nearTo_40 (n_lit (by decide)) ?_
      refine a_icmp_ne (tgt := 61) dX12_nearTo_41 (by decide) ⟨fun c3 => ?_, fun c3 => ?_⟩
      · refine a_iinc dX12_nearTo_61 rfl (by decide) rfl ?_
        refine a_goto (tgt := 15) dX12_nearTo_64 (by decide) ?_
        exact (((h.2 c1).2 c2).2.1 c3)
      · refine a_aload_n dX12_nearTo_44 rfl rfl ?_
        refine a_iload_n dX12_nearTo_45 rfl rfl ?_
        refine a_iload dX12_nearTo_46 rfl ?_
        refine iv_X12_353 dX12_nearTo_48 (Nat.le_of_ble_eq_true rfl) (MtX_mono (((h.2 c1).2 c2).2.2 c3) (fun r m4 hq => ?_))
        obtain ⟨x6, rfl, h5⟩ := hq
        refine ⟨x6, rfl, ?_⟩
        refine a_if_eq (tgt := 61) dX12_nearTo_51 (by decide) ⟨fun c7 => ?_, fun c7 => ?_⟩
        · refine a_iinc dX12_nearTo_61 rfl (by decide) rfl ?_
          refine a_goto (tgt := 15) dX12_nearTo_64 (by decide) ?_
          exact (h5.1 c7)
        · refine a_iload_n dX12_nearTo_54 rfl rfl ?_
          refine a_iconst (k := 1) dX12_nearTo_55 (n_lit (by decide)) ?_
          refine a_iload dX12_nearTo_56 rfl ?_
          refine a_ishl dX12_nearTo_58 ?_
          refine a_ior dX12_nearTo_59 ?_
          refine a_istore_n dX12_nearTo_60 rfl (by decide) rfl ?_
          refine a_iinc dX12_nearTo_61 rfl (by decide) rfl ?_
          refine a_goto (tgt := 15) dX12_nearTo_64 (by decide) ?_
          exact (h5.2 c7)
set_option maxRecDepth 10000 in
theorem sg_X12_chainOf_0 {d : Nat} {sx : Option (List Int)} (a1 : Int) (mem : AMem) (Q : Option AV → AMem → Prop) (h : Y cX12_chainOf 4 RX12 (d + 1) sx 6 [some (vr 12 0), some (vi a1), some (vi 0), some (vi (shl32 1 a1))] [] mem Q) : Y cX12_chainOf 4 RX12 (d + 1) sx 0 [some (vr 12 0), some (vi a1), none, none] [] mem Q := by
  refine a_iconst (k := 0) dX12_chainOf_0 (n_lit (by decide)) ?_
  refine a_istore_n dX12_chainOf_1 rfl (by decide) rfl ?_
  refine a_iconst (k := 1) dX12_chainOf_2 (n_lit (by decide)) ?_
  refine a_iload_n dX12_chainOf_3 rfl rfl ?_
  refine a_ishl dX12_chainOf_4 ?_
  refine a_istore_n dX12_chainOf_5 rfl (by decide) rfl ?_
  exact h
set_option maxRecDepth 10000 in
theorem sg_X12_chainOf_6 {d : Nat} {sx : Option (List Int)} (a1 : Int) (a2 : Int) (a3 : Int) (mem : AMem) (Q : Option AV → AMem → Prop) (h : (a3 = a2 → (MtX yX12_bitsOf cX12_bitsOf 3 (some .int) d [vi a2] mem (fun r m2 => ∃ x4 : Int, r = some (vi x4) ∧ (Q (some (vi x4)) m2)))) ∧ (¬ a3 = a2 → (MtX yX12_nearTo cX12_nearTo 5 (some .int) d [vr 12 0, vi a3] mem (fun r m5 => ∃ x7 : Int, r = some (vi x7) ∧ (Y cX12_chainOf 4 RX12 (d + 1) sx 6 [some (vr 12 0), some (vi a1), some (vi a3), some (vi x7)] [] m5 Q))))) : Y cX12_chainOf 4 RX12 (d + 1) sx 6 [some (vr 12 0), some (vi a1), some (vi a2), some (vi a3)] [] mem Q := by
  refine a_iload_n dX12_chainOf_6 rfl rfl ?_
  refine a_iload_n dX12_chainOf_7 rfl rfl ?_
  refine a_icmp_eq (tgt := 22) dX12_chainOf_8 (by decide) ⟨fun c1 => ?_, fun c1 => ?_⟩
  · refine a_iload_n dX12_chainOf_22 rfl rfl ?_
    refine iv_X12_279 dX12_chainOf_23 (Nat.le_of_ble_eq_true rfl) (MtX_mono (h.1 c1) (fun r m2 hq => ?_))
    obtain ⟨x4, rfl, h3⟩ := hq
    refine ⟨x4, rfl, ?_⟩
    exact a_iret dX12_chainOf_26 h3
  · refine a_iload_n dX12_chainOf_11 rfl rfl ?_
    refine a_istore_n dX12_chainOf_12 rfl (by decide) rfl ?_
    refine a_aload_n dX12_chainOf_13 rfl rfl ?_
    refine a_iload_n dX12_chainOf_14 rfl rfl ?_
    refine iv_X12_356 dX12_chainOf_15 (Nat.le_of_ble_eq_true rfl) (MtX_mono (h.2 c1) (fun r m5 hq => ?_))
    obtain ⟨x7, rfl, h6⟩ := hq
    refine ⟨x7, rfl, ?_⟩
    refine a_istore_n dX12_chainOf_18 rfl (by decide) rfl ?_
    refine a_goto (tgt := 6) dX12_chainOf_19 (by decide) ?_
    exact h6
set_option maxRecDepth 10000 in
theorem sg_X12_line_0 {d : Nat} {sx : Option (List Int)} (a1 : Int) (mem : AMem) (Q : Option AV → AMem → Prop) (h : MtX yX12_in cX12_in 3 (some .boolean) d [vi a1, vi 0, vi 2] mem (fun r m1 => ∃ x3 : Int, r = some (vi x3) ∧ ((x3 ≠ (0 : Int) → (Y cX12_line 6 RX12 (d + 1) sx 18 [some (vr 12 0), some (vi a1), some (vi 0), some (vi 0), some (vi 0), none] [] m1 Q)) ∧ (x3 = (0 : Int) → (Q (some (vi (-1))) m1))))) : Y cX12_line 6 RX12 (d + 1) sx 0 [some (vr 12 0), some (vi a1), none, none, none, none] [] mem Q := by
  refine a_iload_n dX12_line_0 rfl rfl ?_
  refine a_iconst (k := 0) dX12_line_1 (n_lit (by decide)) ?_
  refine a_iconst (k := 2) dX12_line_2 (n_lit (by decide)) ?_
  refine iv_X12_128 dX12_line_3 (Nat.le_of_ble_eq_true rfl) (MtX_mono h (fun r m1 hq => ?_))
  obtain ⟨x3, rfl, h2⟩ := hq
  refine ⟨x3, rfl, ?_⟩
  refine a_if_ne (tgt := 11) dX12_line_6 (by decide) ⟨fun c4 => ?_, fun c4 => ?_⟩
  · refine a_iconst (k := 0) dX12_line_11 (n_lit (by decide)) ?_
    refine a_istore_n dX12_line_12 rfl (by decide) rfl ?_
    refine a_iconst (k := 0) dX12_line_13 (n_lit (by decide)) ?_
    refine a_istore_n dX12_line_14 rfl (by decide) rfl ?_
    refine a_iconst (k := 0) dX12_line_15 (n_lit (by decide)) ?_
    refine a_istore dX12_line_16 (by decide) rfl ?_
    exact (h2.1 c4)
  · refine a_iconst (k := (-1)) dX12_line_9 (n_lit (by decide)) ?_
    exact a_iret dX12_line_10 (h2.2 c4)
set_option maxRecDepth 10000 in
theorem sg_X12_line_18 {d : Nat} {sx : Option (List Int)} (a1 : Int) (a2 : Int) (a3 : Int) (a4 : Int) (mem : AMem) (Q : Option AV → AMem → Prop) (h : ((mem 12 0 1) ≤ a4 → ((a1 ≠ (2 : Int) → (Q (some (vi a2)) mem)) ∧ (a1 = (2 : Int) → (Q (some (vi a3)) mem)))) ∧ (¬ (mem 12 0 1) ≤ a4 → ((0 ≤ a4 ∧ a4 < 7) ∧ (((mem 1305 0 a4) ≠ (0 : Int) → (MtX yX12_chainOf cX12_chainOf 4 (some .int) d [vr 12 0, vi a4] mem (fun r m4 => ∃ x6 : Int, r = some (vi x6) ∧ ((x6 ≤ a3 → (Y cX12_line 6 RX12 (d + 1) sx 57 [some (vr 12 0), some (vi a1), some (vi a2), some (vi a3), some (vi a4), some (vi x6)] [] m4 Q)) ∧ (¬ x6 ≤ a3 → (Y cX12_line 6 RX12 (d + 1) sx 57 [some (vr 12 0), some (vi a1), some (vi a2), some (vi x6), some (vi a4), some (vi x6)] [] m4 Q)))))) ∧ ((mem 1305 0 a4) = (0 : Int) → (Y cX12_line 6 RX12 (d + 1) sx 18 [some (vr 12 0), some (vi a1), some (vi a2), some (vi a3), some (vi (w32 (a4 + 1))), none] [] mem Q)))))) : Y cX12_line 6 RX12 (d + 1) sx 18 [some (vr 12 0), some (vi a1), some (vi a2), some (vi a3), some (vi a4), none] [] mem Q := by
  refine a_iload dX12_line_18 rfl ?_
  refine a_aload_n dX12_line_20 rfl rfl ?_
  refine gf_X12_125 (x := mem 12 0 1) rfl dX12_line_21 ?_
  refine a_icmp_ge (tgt := 105) dX12_line_24 (by decide) ⟨fun c1 => ?_, fun c1 => ?_⟩
  · refine a_iload_n dX12_line_105 rfl rfl ?_
    refine a_iconst (k := 2) dX12_line_106 (n_lit (by decide)) ?_
    refine a_icmp_ne (tgt := 114) dX12_line_107 (by decide) ⟨fun c2 => ?_, fun c2 => ?_⟩
    · refine a_iload_n dX12_line_114 rfl rfl ?_
      exact a_iret dX12_line_115 ((h.1 c1).1 c2)
    · refine a_iload_n dX12_line_110 rfl rfl ?_
      refine a_goto (tgt := 115) dX12_line_111 (by decide) ?_
      exact a_iret dX12_line_115 ((h.1 c1).2 c2)
  · refine a_aload_n dX12_line_27 rfl rfl ?_
    refine gf_X12_19 dX12_line_28 ?_
    refine a_iload dX12_line_31 rfl ?_
    refine a_iald rfl rfl (by decide) rfl dX12_line_33 ⟨(h.2 c1).1, ?_⟩
    refine a_if_ne (tgt := 40) dX12_line_34 (by decide) ⟨fun c3 => ?_, fun c3 => ?_⟩
    · refine a_aload_n dX12_line_40 rfl rfl ?_
      refine a_iload dX12_line_41 rfl ?_
      refine iv_X12_359 dX12_line_43 (Nat.le_of_ble_eq_true rfl) (MtX_mono ((h.2 c1).2.1 c3) (fun r m4 hq => ?_))
      obtain ⟨x6, rfl, h5⟩ := hq
      refine ⟨x6, rfl, ?_⟩
      refine a_istore dX12_line_46 (by decide) rfl ?_
      refine a_iload dX12_line_48 rfl ?_
      refine a_iload_n dX12_line_50 rfl rfl ?_
      refine a_icmp_le (tgt := 57) dX12_line_51 (by decide) ⟨fun c7 => ?_, fun c7 => ?_⟩
      · exact (h5.1 c7)
      · refine a_iload dX12_line_54 rfl ?_
        refine a_istore_n dX12_line_56 rfl (by decide) rfl ?_
        exact (h5.2 c7)
    · refine a_goto (tgt := 99) dX12_line_37 (by decide) ?_
      refine a_iinc dX12_line_99 rfl (by decide) rfl ?_
      refine a_goto (tgt := 18) dX12_line_102 (by decide) ?_
      exact ((h.2 c1).2.2 c3)
set_option maxRecDepth 10000 in
theorem sg_X12_line_57 {d : Nat} {sx : Option (List Int)} (a1 : Int) (a2 : Int) (a3 : Int) (a4 : Int) (a5 : Int) (mem : AMem) (Q : Option AV → AMem → Prop) (h : (a1 ≠ (0 : Int) → ((a5 ≠ (1 : Int) → (Y cX12_line 6 RX12 (d + 1) sx 18 [some (vr 12 0), some (vi a1), some (vi a2), some (vi a3), some (vi (w32 (a4 + 1))), some (vi a5)] [] mem Q)) ∧ (a5 = (1 : Int) → (Y cX12_line 6 RX12 (d + 1) sx 18 [some (vr 12 0), some (vi a1), some (vi (or_32 a2 (shl32 1 a4))), some (vi a3), some (vi (w32 (a4 + 1))), some (vi a5)] [] mem Q)))) ∧ (a1 = (0 : Int) → ((0 ≤ a4 ∧ a4 < 7) ∧ (((mem 1302 0 a4) = (0 : Int) → (Y cX12_line 6 RX12 (d + 1) sx 18 [some (vr 12 0), some (vi a1), some (vi (or_32 a2 (shl32 1 a4))), some (vi a3), some (vi (w32 (a4 + 1))), some (vi a5)] [] mem Q)) ∧ (¬ (mem 1302 0 a4) = (0 : Int) → ((0 ≤ a4 ∧ a4 < 7) ∧ (((mem 1302 0 a4) ≠ (8 : Int) → (Y cX12_line 6 RX12 (d + 1) sx 18 [some (vr 12 0), some (vi a1), some (vi a2), some (vi a3), some (vi (w32 (a4 + 1))), some (vi a5)] [] mem Q)) ∧ ((mem 1302 0 a4) = (8 : Int) → (Y cX12_line 6 RX12 (d + 1) sx 18 [some (vr 12 0), some (vi a1), some (vi (or_32 a2 (shl32 1 a4))), some (vi a3), some (vi (w32 (a4 + 1))), some (vi a5)] [] mem Q))))))))) : Y cX12_line 6 RX12 (d + 1) sx 57 [some (vr 12 0), some (vi a1), some (vi a2), some (vi a3), some (vi a4), some (vi a5)] [] mem Q := by
  refine a_iload_n dX12_line_57 rfl rfl ?_
  refine a_if_ne (tgt := 86) dX12_line_58 (by decide) ⟨fun c1 => ?_, fun c1 => ?_⟩
  · refine a_iload dX12_line_86 rfl ?_
    refine a_iconst (k := 1) dX12_line_88 (n_lit (by decide)) ?_
    refine a_icmp_ne (tgt := 99) dX12_line_89 (by decide) ⟨fun c2 => ?_, fun c2 => ?_⟩
    · refine a_iinc dX12_line_99 rfl (by decide) rfl ?_
      refine a_goto (tgt := 18) dX12_line_102 (by decide) ?_
      exact ((h.1 c1).1 c2)
    · refine a_iload_n dX12_line_92 rfl rfl ?_
      refine a_iconst (k := 1) dX12_line_93 (n_lit (by decide)) ?_
      refine a_iload dX12_line_94 rfl ?_
      refine a_ishl dX12_line_96 ?_
      refine a_ior dX12_line_97 ?_
      refine a_istore_n dX12_line_98 rfl (by decide) rfl ?_
      refine a_iinc dX12_line_99 rfl (by decide) rfl ?_
      refine a_goto (tgt := 18) dX12_line_102 (by decide) ?_
      exact ((h.1 c1).2 c2)
  · refine a_aload_n dX12_line_61 rfl rfl ?_
    refine gf_X12_7 dX12_line_62 ?_
    refine a_iload dX12_line_65 rfl ?_
    refine a_iald rfl rfl (by decide) rfl dX12_line_67 ⟨(h.2 c1).1, ?_⟩
    refine a_if_eq (tgt := 92) dX12_line_68 (by decide) ⟨fun c3 => ?_, fun c3 => ?_⟩
    · refine a_iload_n dX12_line_92 rfl rfl ?_
      refine a_iconst (k := 1) dX12_line_93 (n_lit (by decide)) ?_
      refine a_iload dX12_line_94 rfl ?_
      refine a_ishl dX12_line_96 ?_
      refine a_ior dX12_line_97 ?_
      refine a_istore_n dX12_line_98 rfl (by decide) rfl ?_
      refine a_iinc dX12_line_99 rfl (by decide) rfl ?_
      refine a_goto (tgt := 18) dX12_line_102 (by decide) ?_
      exact ((h.2 c1).2.1 c3)
    · refine a_aload_n dX12_line_71 rfl rfl ?_
      refine gf_X12_7 dX12_line_72 ?_
      refine a_iload dX12_line_75 rfl ?_
      refine a_iald rfl rfl (by decide) rfl dX12_line_77 ⟨((h.2 c1).2.2 c3).1, ?_⟩
      refine a_bipush (k := 8) dX12_line_78 (by decide) (n_lit (by decide)) ?_
      refine a_icmp_ne (tgt := 99) dX12_line_80 (by decide) ⟨fun c4 => ?_, fun c4 => ?_⟩
      · refine a_iinc dX12_line_99 rfl (by decide) rfl ?_
        refine a_goto (tgt := 18) dX12_line_102 (by decide) ?_
        exact (((h.2 c1).2.2 c3).2.1 c4)
      · refine a_goto (tgt := 92) dX12_line_83 (by decide) ?_
        refine a_iload_n dX12_line_92 rfl rfl ?_
        refine a_iconst (k := 1) dX12_line_93 (n_lit (by decide)) ?_
        refine a_iload dX12_line_94 rfl ?_
        refine a_ishl dX12_line_96 ?_
        refine a_ior dX12_line_97 ?_
        refine a_istore_n dX12_line_98 rfl (by decide) rfl ?_
        refine a_iinc dX12_line_99 rfl (by decide) rfl ?_
        refine a_goto (tgt := 18) dX12_line_102 (by decide) ?_
        exact (((h.2 c1).2.2 c3).2.2 c4)
set_option maxRecDepth 10000 in
theorem sg_X12_thenAt_0 {d : Nat} {sx : Option (List Int)} (a1 : Int) (a2 : Int) (mem : AMem) (Q : Option AV → AMem → Prop) (h : (0 ≤ (w32 ((w32 ((w32 (143 * a2)) + a1)) + 71)) ∧ (w32 ((w32 ((w32 (143 * a2)) + a1)) + 71)) < 429) ∧ (Q (some (vi (mem 1343 0 (w32 ((w32 ((w32 (143 * a2)) + a1)) + 71))))) mem)) : Y cX12_thenAt 3 RX12 (d + 1) sx 0 [some (vr 12 0), some (vi a1), some (vi a2)] [] mem Q := by
  refine a_aload_n dX12_thenAt_0 rfl rfl ?_
  refine gf_X12_78 dX12_thenAt_1 ?_
  refine a_sipush (k := 143) dX12_thenAt_4 (by decide) (n_lit (by decide)) ?_
  refine a_iload_n dX12_thenAt_7 rfl rfl ?_
  refine a_imul dX12_thenAt_8 ?_
  refine a_iload_n dX12_thenAt_9 rfl rfl ?_
  refine a_iadd dX12_thenAt_10 ?_
  refine a_bipush (k := 71) dX12_thenAt_11 (by decide) (n_lit (by decide)) ?_
  refine a_iadd dX12_thenAt_13 ?_
  refine a_iald rfl rfl (by decide) rfl dX12_thenAt_14 ⟨h.1, ?_⟩
  exact a_iret dX12_thenAt_15 h.2
set_option maxRecDepth 10000 in
theorem sg_X12_wayOf_0 {d : Nat} {sx : Option (List Int)} (a1 : Int) (a2 : Int) (a3 : Int) (a4 : Int) (a5 : Int) (mem : AMem) (Q : Option AV → AMem → Prop) (h : ((w32 (12 - a1)) ≤ a2 → ((a5 ≠ (0 : Int) → ((a4 ≠ (2 : Int) → (MtX yX12_thenAt cX12_thenAt 3 (some .int) d [vr 12 0, vi a3, vi (w32 (a4 + 1))] mem (fun r m4 => ∃ x6 : Int, r = some (vi x6) ∧ (MtX yX12_thenAt cX12_thenAt 3 (some .int) d [vr 12 0, vi (w32 (a3 + 1)), vi 0] m4 (fun r m7 => ∃ x9 : Int, r = some (vi x9) ∧ (MtX yX12_thenAt cX12_thenAt 3 (some .int) d [vr 12 0, vi (w32 (a3 - 1)), vi 0] m7 (fun r m10 => ∃ x12 : Int, r = some (vi x12) ∧ (Q (some (vi (w32 (w64 (Int.tdiv (w64 ((w64 ((w64 (a1 * x9)) + (w64 ((w32 (12 - a1)) * x12)))) + (w64 ((w32 ((w32 (12 - a1)) - (w32 (12 - a1)))) * x6)))) 12))))) m10)))))))) ∧ (a4 = (2 : Int) → (MtX yX12_thenAt cX12_thenAt 3 (some .int) d [vr 12 0, vi (w32 (a3 - 1)), vi 0] mem (fun r m13 => ∃ x15 : Int, r = some (vi x15) ∧ (MtX yX12_thenAt cX12_thenAt 3 (some .int) d [vr 12 0, vi (w32 (a3 + 1)), vi 0] m13 (fun r m16 => ∃ x18 : Int, r = some (vi x18) ∧ (MtX yX12_thenAt cX12_thenAt 3 (some .int) d [vr 12 0, vi (w32 (a3 - 1)), vi 0] m16 (fun r m19 => ∃ x21 : Int, r = some (vi x21) ∧ (Q (some (vi (w32 (w64 (Int.tdiv (w64 ((w64 ((w64 (a1 * x18)) + (w64 ((w32 (12 - a1)) * x21)))) + (w64 ((w32 ((w32 (12 - a1)) - (w32 (12 - a1)))) * x15)))) 12))))) m19)))))))))) ∧ (a5 = (0 : Int) → (MtX yX12_thenAt cX12_thenAt 3 (some .int) d [vr 12 0, vi a3, vi 0] mem (fun r m22 => ∃ x24 : Int, r = some (vi x24) ∧ (MtX yX12_thenAt cX12_thenAt 3 (some .int) d [vr 12 0, vi (w32 (a3 + 1)), vi 0] m22 (fun r m25 => ∃ x27 : Int, r = some (vi x27) ∧ (MtX yX12_thenAt cX12_thenAt 3 (some .int) d [vr 12 0, vi (w32 (a3 - 1)), vi 0] m25 (fun r m28 => ∃ x30 : Int, r = some (vi x30) ∧ (Q (some (vi (w32 (w64 (Int.tdiv (w64 ((w64 ((w64 (a1 * x27)) + (w64 ((w32 (12 - a1)) * x30)))) + (w64 ((w32 ((w32 (12 - a1)) - (w32 (12 - a1)))) * x24)))) 12))))) m28)))))))))) ∧ (¬ (w32 (12 - a1)) ≤ a2 → ((a5 ≠ (0 : Int) → ((a4 ≠ (2 : Int) → (MtX yX12_thenAt cX12_thenAt 3 (some .int) d [vr 12 0, vi a3, vi (w32 (a4 + 1))] mem (fun r m33 => ∃ x35 : Int, r = some (vi x35) ∧ (MtX yX12_thenAt cX12_thenAt 3 (some .int) d [vr 12 0, vi (w32 (a3 + 1)), vi 0] m33 (fun r m36 => ∃ x38 : Int, r = some (vi x38) ∧ (MtX yX12_thenAt cX12_thenAt 3 (some .int) d [vr 12 0, vi (w32 (a3 - 1)), vi 0] m36 (fun r m39 => ∃ x41 : Int, r = some (vi x41) ∧ (Q (some (vi (w32 (w64 (Int.tdiv (w64 ((w64 ((w64 (a1 * x38)) + (w64 (a2 * x41)))) + (w64 ((w32 ((w32 (12 - a1)) - a2)) * x35)))) 12))))) m39)))))))) ∧ (a4 = (2 : Int) → (MtX yX12_thenAt cX12_thenAt 3 (some .int) d [vr 12 0, vi (w32 (a3 - 1)), vi 0] mem (fun r m42 => ∃ x44 : Int, r = some (vi x44) ∧ (MtX yX12_thenAt cX12_thenAt 3 (some .int) d [vr 12 0, vi (w32 (a3 + 1)), vi 0] m42 (fun r m45 => ∃ x47 : Int, r = some (vi x47) ∧ (MtX yX12_thenAt cX12_thenAt 3 (some .int) d [vr 12 0, vi (w32 (a3 - 1)), vi 0] m45 (fun r m48 => ∃ x50 : Int, r = some (vi x50) ∧ (Q (some (vi (w32 (w64 (Int.tdiv (w64 ((w64 ((w64 (a1 * x47)) + (w64 (a2 * x50)))) + (w64 ((w32 ((w32 (12 - a1)) - a2)) * x44)))) 12))))) m48)))))))))) ∧ (a5 = (0 : Int) → (MtX yX12_thenAt cX12_thenAt 3 (some .int) d [vr 12 0, vi a3, vi 0] mem (fun r m51 => ∃ x53 : Int, r = some (vi x53) ∧ (MtX yX12_thenAt cX12_thenAt 3 (some .int) d [vr 12 0, vi (w32 (a3 + 1)), vi 0] m51 (fun r m54 => ∃ x56 : Int, r = some (vi x56) ∧ (MtX yX12_thenAt cX12_thenAt 3 (some .int) d [vr 12 0, vi (w32 (a3 - 1)), vi 0] m54 (fun r m57 => ∃ x59 : Int, r = some (vi x59) ∧ (Q (some (vi (w32 (w64 (Int.tdiv (w64 ((w64 ((w64 (a1 * x56)) + (w64 (a2 * x59)))) + (w64 ((w32 ((w32 (12 - a1)) - a2)) * x53)))) 12))))) m57))))))))))) : Y cX12_wayOf 8 RX12 (d + 1) sx 0 [some (vr 12 0), some (vi a1), some (vi a2), some (vi a3), some (vi a4), some (vi a5), none, none] [] mem Q := by
  refine a_iload_n dX12_wayOf_0 rfl rfl ?_
  refine a_bipush (k := 12) dX12_wayOf_1 (by decide) (n_lit (by decide)) ?_
  refine a_iload_n dX12_wayOf_3 rfl rfl ?_
  refine a_isub dX12_wayOf_4 ?_
  refine a_icmp_ge (tgt := 12) dX12_wayOf_5 (by decide) ⟨fun c1 => ?_, fun c1 => ?_⟩
  · refine a_bipush (k := 12) dX12_wayOf_12 (by decide) (n_lit (by decide)) ?_
    refine a_iload_n dX12_wayOf_14 rfl rfl ?_
    refine a_isub dX12_wayOf_15 ?_
    refine a_istore dX12_wayOf_16 (by decide) rfl ?_
    refine a_iload dX12_wayOf_18 rfl ?_
    refine a_if_ne (tgt := 32) dX12_wayOf_20 (by decide) ⟨fun c2 => ?_, fun c2 => ?_⟩
    · refine a_iload dX12_wayOf_32 rfl ?_
      refine a_iconst (k := 2) dX12_wayOf_34 (n_lit (by decide)) ?_
      refine a_icmp_ne (tgt := 49) dX12_wayOf_35 (by decide) ⟨fun c3 => ?_, fun c3 => ?_⟩
      · refine a_aload_n dX12_wayOf_49 rfl rfl ?_
        refine a_iload_n dX12_wayOf_50 rfl rfl ?_
        refine a_iload dX12_wayOf_51 rfl ?_
        refine a_iconst (k := 1) dX12_wayOf_53 (n_lit (by decide)) ?_
        refine a_iadd dX12_wayOf_54 ?_
        refine iv_X12_362 dX12_wayOf_55 (Nat.le_of_ble_eq_true rfl) (MtX_mono (((h.1 c1).1 c2).1 c3) (fun r m4 hq => ?_))
        obtain ⟨x6, rfl, h5⟩ := hq
        refine ⟨x6, rfl, ?_⟩
        refine a_istore dX12_wayOf_58 (by decide) rfl ?_
        refine a_iload_n dX12_wayOf_60 rfl rfl ?_
        refine a_i2l dX12_wayOf_61 ?_
        refine a_aload_n dX12_wayOf_62 rfl rfl ?_
        refine a_iload_n dX12_wayOf_63 rfl rfl ?_
        refine a_iconst (k := 1) dX12_wayOf_64 (n_lit (by decide)) ?_
        refine a_iadd dX12_wayOf_65 ?_
        refine a_iconst (k := 0) dX12_wayOf_66 (n_lit (by decide)) ?_
        refine iv_X12_362 dX12_wayOf_67 (Nat.le_of_ble_eq_true rfl) (MtX_mono h5 (fun r m7 hq => ?_))
        obtain ⟨x9, rfl, h8⟩ := hq
        refine ⟨x9, rfl, ?_⟩
        refine a_i2l dX12_wayOf_70 ?_
        refine a_lmul dX12_wayOf_71 ?_
        refine a_iload dX12_wayOf_72 rfl ?_
        refine a_i2l dX12_wayOf_74 ?_
        refine a_aload_n dX12_wayOf_75 rfl rfl ?_
        refine a_iload_n dX12_wayOf_76 rfl rfl ?_
        refine a_iconst (k := 1) dX12_wayOf_77 (n_lit (by decide)) ?_
        refine a_isub dX12_wayOf_78 ?_
        refine a_iconst (k := 0) dX12_wayOf_79 (n_lit (by decide)) ?_
        refine iv_X12_362 dX12_wayOf_80 (Nat.le_of_ble_eq_true rfl) (MtX_mono h8 (fun r m10 hq => ?_))
        obtain ⟨x12, rfl, h11⟩ := hq
        refine ⟨x12, rfl, ?_⟩
        refine a_i2l dX12_wayOf_83 ?_
        refine a_lmul dX12_wayOf_84 ?_
        refine a_ladd dX12_wayOf_85 ?_
        refine a_bipush (k := 12) dX12_wayOf_86 (by decide) (n_lit (by decide)) ?_
        refine a_iload_n dX12_wayOf_88 rfl rfl ?_
        refine a_isub dX12_wayOf_89 ?_
        refine a_iload dX12_wayOf_90 rfl ?_
        refine a_isub dX12_wayOf_92 ?_
        refine a_i2l dX12_wayOf_93 ?_
        refine a_iload dX12_wayOf_94 rfl ?_
        refine a_i2l dX12_wayOf_96 ?_
        refine a_lmul dX12_wayOf_97 ?_
        refine a_ladd dX12_wayOf_98 ?_
        refine a_ldc2 (k := 12) cl_X12_365 (n_litL (by decide)) dX12_wayOf_99 ?_
        refine a_ldiv dX12_wayOf_102 (by decide) ?_
        refine a_l2i dX12_wayOf_103 ?_
        exact a_iret dX12_wayOf_104 h11
      · refine a_aload_n dX12_wayOf_38 rfl rfl ?_
        refine a_iload_n dX12_wayOf_39 rfl rfl ?_
        refine a_iconst (k := 1) dX12_wayOf_40 (n_lit (by decide)) ?_
        refine a_isub dX12_wayOf_41 ?_
        refine a_iconst (k := 0) dX12_wayOf_42 (n_lit (by decide)) ?_
        refine iv_X12_362 dX12_wayOf_43 (Nat.le_of_ble_eq_true rfl) (MtX_mono (((h.1 c1).1 c2).2 c3) (fun r m13 hq => ?_))
        obtain ⟨x15, rfl, h14⟩ := hq
        refine ⟨x15, rfl, ?_⟩
        refine a_goto (tgt := 58) dX12_wayOf_46 (by decide) ?_
        refine a_istore dX12_wayOf_58 (by decide) rfl ?_
        refine a_iload_n dX12_wayOf_60 rfl rfl ?_
        refine a_i2l dX12_wayOf_61 ?_
        refine a_aload_n dX12_wayOf_62 rfl rfl ?_
        refine a_iload_n dX12_wayOf_63 rfl rfl ?_
        refine a_iconst (k := 1) dX12_wayOf_64 (n_lit (by decide)) ?_
        refine a_iadd dX12_wayOf_65 ?_
        refine a_iconst (k := 0) dX12_wayOf_66 (n_lit (by decide)) ?_
        refine iv_X12_362 dX12_wayOf_67 (Nat.le_of_ble_eq_true rfl) (MtX_mono h14 (fun r m16 hq => ?_))
        obtain ⟨x18, rfl, h17⟩ := hq
        refine ⟨x18, rfl, ?_⟩
        refine a_i2l dX12_wayOf_70 ?_
        refine a_lmul dX12_wayOf_71 ?_
        refine a_iload dX12_wayOf_72 rfl ?_
        refine a_i2l dX12_wayOf_74 ?_
        refine a_aload_n dX12_wayOf_75 rfl rfl ?_
        refine a_iload_n dX12_wayOf_76 rfl rfl ?_
        refine a_iconst (k := 1) dX12_wayOf_77 (n_lit (by decide)) ?_
        refine a_isub dX12_wayOf_78 ?_
        refine a_iconst (k := 0) dX12_wayOf_79 (n_lit (by decide)) ?_
        refine iv_X12_362 dX12_wayOf_80 (Nat.le_of_ble_eq_true rfl) (MtX_mono h17 (fun r m19 hq => ?_))
        obtain ⟨x21, rfl, h20⟩ := hq
        refine ⟨x21, rfl, ?_⟩
        refine a_i2l dX12_wayOf_83 ?_
        refine a_lmul dX12_wayOf_84 ?_
        refine a_ladd dX12_wayOf_85 ?_
        refine a_bipush (k := 12) dX12_wayOf_86 (by decide) (n_lit (by decide)) ?_
        refine a_iload_n dX12_wayOf_88 rfl rfl ?_
        refine a_isub dX12_wayOf_89 ?_
        refine a_iload dX12_wayOf_90 rfl ?_
        refine a_isub dX12_wayOf_92 ?_
        refine a_i2l dX12_wayOf_93 ?_
        refine a_iload dX12_wayOf_94 rfl ?_
        refine a_i2l dX12_wayOf_96 ?_
        refine a_lmul dX12_wayOf_97 ?_
        refine a_ladd dX12_wayOf_98 ?_
        refine a_ldc2 (k := 12) cl_X12_365 (n_litL (by decide)) dX12_wayOf_99 ?_
        refine a_ldiv dX12_wayOf_102 (by decide) ?_
        refine a_l2i dX12_wayOf_103 ?_
        exact a_iret dX12_wayOf_104 h20
    · refine a_aload_n dX12_wayOf_23 rfl rfl ?_
      refine a_iload_n dX12_wayOf_24 rfl rfl ?_
      refine a_iconst (k := 0) dX12_wayOf_25 (n_lit (by decide)) ?_
      refine iv_X12_362 dX12_wayOf_26 (Nat.le_of_ble_eq_true rfl) (MtX_mono ((h.1 c1).2 c2) (fun r m22 hq => ?_))
      obtain ⟨x24, rfl, h23⟩ := hq
      refine ⟨x24, rfl, ?_⟩
      refine a_goto (tgt := 58) dX12_wayOf_29 (by decide) ?_
      refine a_istore dX12_wayOf_58 (by decide) rfl ?_
      refine a_iload_n dX12_wayOf_60 rfl rfl ?_
      refine a_i2l dX12_wayOf_61 ?_
      refine a_aload_n dX12_wayOf_62 rfl rfl ?_
      refine a_iload_n dX12_wayOf_63 rfl rfl ?_
      refine a_iconst (k := 1) dX12_wayOf_64 (n_lit (by decide)) ?_
      refine a_iadd dX12_wayOf_65 ?_
      refine a_iconst (k := 0) dX12_wayOf_66 (n_lit (by decide)) ?_
      refine iv_X12_362 dX12_wayOf_67 (Nat.le_of_ble_eq_true rfl) (MtX_mono h23 (fun r m25 hq => ?_))
      obtain ⟨x27, rfl, h26⟩ := hq
      refine ⟨x27, rfl, ?_⟩
      refine a_i2l dX12_wayOf_70 ?_
      refine a_lmul dX12_wayOf_71 ?_
      refine a_iload dX12_wayOf_72 rfl ?_
      refine a_i2l dX12_wayOf_74 ?_
      refine a_aload_n dX12_wayOf_75 rfl rfl ?_
      refine a_iload_n dX12_wayOf_76 rfl rfl ?_
      refine a_iconst (k := 1) dX12_wayOf_77 (n_lit (by decide)) ?_
      refine a_isub dX12_wayOf_78 ?_
      refine a_iconst (k := 0) dX12_wayOf_79 (n_lit (by decide)) ?_
      refine iv_X12_362 dX12_wayOf_80 (Nat.le_of_ble_eq_true rfl) (MtX_mono h26 (fun r m28 hq => ?_))
      obtain ⟨x30, rfl, h29⟩ := hq
      refine ⟨x30, rfl, ?_⟩
      refine a_i2l dX12_wayOf_83 ?_
      refine a_lmul dX12_wayOf_84 ?_
      refine a_ladd dX12_wayOf_85 ?_
      refine a_bipush (k := 12) dX12_wayOf_86 (by decide) (n_lit (by decide)) ?_
      refine a_iload_n dX12_wayOf_88 rfl rfl ?_
      refine a_isub dX12_wayOf_89 ?_
      refine a_iload dX12_wayOf_90 rfl ?_
      refine a_isub dX12_wayOf_92 ?_
      refine a_i2l dX12_wayOf_93 ?_
      refine a_iload dX12_wayOf_94 rfl ?_
      refine a_i2l dX12_wayOf_96 ?_
      refine a_lmul dX12_wayOf_97 ?_
      refine a_ladd dX12_wayOf_98 ?_
      refine a_ldc2 (k := 12) cl_X12_365 (n_litL (by decide)) dX12_wayOf_99 ?_
      refine a_ldiv dX12_wayOf_102 (by decide) ?_
      refine a_l2i dX12_wayOf_103 ?_
      exact a_iret dX12_wayOf_104 h29
  · refine a_iload_n dX12_wayOf_8 rfl rfl ?_
    refine a_goto (tgt := 16) dX12_wayOf_9 (by decide) ?_
    refine a_istore dX12_wayOf_16 (by decide) rfl ?_
    refine a_iload dX12_wayOf_18 rfl ?_
    refine a_if_ne (tgt := 32) dX12_wayOf_20 (by decide) ⟨fun c31 => ?_, fun c31 => ?_⟩
    · refine a_iload dX12_wayOf_32 rfl ?_
      refine a_iconst (k := 2) dX12_wayOf_34 (n_lit (by decide)) ?_
      refine a_icmp_ne (tgt := 49) dX12_wayOf_35 (by decide) ⟨fun c32 => ?_, fun c32 => ?_⟩
      · refine a_aload_n dX12_wayOf_49 rfl rfl ?_
        refine a_iload_n dX12_wayOf_50 rfl rfl ?_
        refine a_iload dX12_wayOf_51 rfl ?_
        refine a_iconst (k := 1) dX12_wayOf_53 (n_lit (by decide)) ?_
        refine a_iadd dX12_wayOf_54 ?_
        refine iv_X12_362 dX12_wayOf_55 (Nat.le_of_ble_eq_true rfl) (MtX_mono (((h.2 c1).1 c31).1 c32) (fun r m33 hq => ?_))
        obtain ⟨x35, rfl, h34⟩ := hq
        refine ⟨x35, rfl, ?_⟩
        refine a_istore dX12_wayOf_58 (by decide) rfl ?_
        refine a_iload_n dX12_wayOf_60 rfl rfl ?_
        refine a_i2l dX12_wayOf_61 ?_
        refine a_aload_n dX12_wayOf_62 rfl rfl ?_
        refine a_iload_n dX12_wayOf_63 rfl rfl ?_
        refine a_iconst (k := 1) dX12_wayOf_64 (n_lit (by decide)) ?_
        refine a_iadd dX12_wayOf_65 ?_
        refine a_iconst (k := 0) dX12_wayOf_66 (n_lit (by decide)) ?_
        refine iv_X12_362 dX12_wayOf_67 (Nat.le_of_ble_eq_true rfl) (MtX_mono h34 (fun r m36 hq => ?_))
        obtain ⟨x38, rfl, h37⟩ := hq
        refine ⟨x38, rfl, ?_⟩
        refine a_i2l dX12_wayOf_70 ?_
        refine a_lmul dX12_wayOf_71 ?_
        refine a_iload dX12_wayOf_72 rfl ?_
        refine a_i2l dX12_wayOf_74 ?_
        refine a_aload_n dX12_wayOf_75 rfl rfl ?_
        refine a_iload_n dX12_wayOf_76 rfl rfl ?_
        refine a_iconst (k := 1) dX12_wayOf_77 (n_lit (by decide)) ?_
        refine a_isub dX12_wayOf_78 ?_
        refine a_iconst (k := 0) dX12_wayOf_79 (n_lit (by decide)) ?_
        refine iv_X12_362 dX12_wayOf_80 (Nat.le_of_ble_eq_true rfl) (MtX_mono h37 (fun r m39 hq => ?_))
        obtain ⟨x41, rfl, h40⟩ := hq
        refine ⟨x41, rfl, ?_⟩
        refine a_i2l dX12_wayOf_83 ?_
        refine a_lmul dX12_wayOf_84 ?_
        refine a_ladd dX12_wayOf_85 ?_
        refine a_bipush (k := 12) dX12_wayOf_86 (by decide) (n_lit (by decide)) ?_
        refine a_iload_n dX12_wayOf_88 rfl rfl ?_
        refine a_isub dX12_wayOf_89 ?_
        refine a_iload dX12_wayOf_90 rfl ?_
        refine a_isub dX12_wayOf_92 ?_
        refine a_i2l dX12_wayOf_93 ?_
        refine a_iload dX12_wayOf_94 rfl ?_
        refine a_i2l dX12_wayOf_96 ?_
        refine a_lmul dX12_wayOf_97 ?_
        refine a_ladd dX12_wayOf_98 ?_
        refine a_ldc2 (k := 12) cl_X12_365 (n_litL (by decide)) dX12_wayOf_99 ?_
        refine a_ldiv dX12_wayOf_102 (by decide) ?_
        refine a_l2i dX12_wayOf_103 ?_
        exact a_iret dX12_wayOf_104 h40
      · refine a_aload_n dX12_wayOf_38 rfl rfl ?_
        refine a_iload_n dX12_wayOf_39 rfl rfl ?_
        refine a_iconst (k := 1) dX12_wayOf_40 (n_lit (by decide)) ?_
        refine a_isub dX12_wayOf_41 ?_
        refine a_iconst (k := 0) dX12_wayOf_42 (n_lit (by decide)) ?_
        refine iv_X12_362 dX12_wayOf_43 (Nat.le_of_ble_eq_true rfl) (MtX_mono (((h.2 c1).1 c31).2 c32) (fun r m42 hq => ?_))
        obtain ⟨x44, rfl, h43⟩ := hq
        refine ⟨x44, rfl, ?_⟩
        refine a_goto (tgt := 58) dX12_wayOf_46 (by decide) ?_
        refine a_istore dX12_wayOf_58 (by decide) rfl ?_
        refine a_iload_n dX12_wayOf_60 rfl rfl ?_
        refine a_i2l dX12_wayOf_61 ?_
        refine a_aload_n dX12_wayOf_62 rfl rfl ?_
        refine a_iload_n dX12_wayOf_63 rfl rfl ?_
        refine a_iconst (k := 1) dX12_wayOf_64 (n_lit (by decide)) ?_
        refine a_iadd dX12_wayOf_65 ?_
        refine a_iconst (k := 0) dX12_wayOf_66 (n_lit (by decide)) ?_
        refine iv_X12_362 dX12_wayOf_67 (Nat.le_of_ble_eq_true rfl) (MtX_mono h43 (fun r m45 hq => ?_))
        obtain ⟨x47, rfl, h46⟩ := hq
        refine ⟨x47, rfl, ?_⟩
        refine a_i2l dX12_wayOf_70 ?_
        refine a_lmul dX12_wayOf_71 ?_
        refine a_iload dX12_wayOf_72 rfl ?_
        refine a_i2l dX12_wayOf_74 ?_
        refine a_aload_n dX12_wayOf_75 rfl rfl ?_
        refine a_iload_n dX12_wayOf_76 rfl rfl ?_
        refine a_iconst (k := 1) dX12_wayOf_77 (n_lit (by decide)) ?_
        refine a_isub dX12_wayOf_78 ?_
        refine a_iconst (k := 0) dX12_wayOf_79 (n_lit (by decide)) ?_
        refine iv_X12_362 dX12_wayOf_80 (Nat.le_of_ble_eq_true rfl) (MtX_mono h46 (fun r m48 hq => ?_))
        obtain ⟨x50, rfl, h49⟩ := hq
        refine ⟨x50, rfl, ?_⟩
        refine a_i2l dX12_wayOf_83 ?_
        refine a_lmul dX12_wayOf_84 ?_
        refine a_ladd dX12_wayOf_85 ?_
        refine a_bipush (k := 12) dX12_wayOf_86 (by decide) (n_lit (by decide)) ?_
        refine a_iload_n dX12_wayOf_88 rfl rfl ?_
        refine a_isub dX12_wayOf_89 ?_
        refine a_iload dX12_wayOf_90 rfl ?_
        refine a_isub dX12_wayOf_92 ?_
        refine a_i2l dX12_wayOf_93 ?_
        refine a_iload dX12_wayOf_94 rfl ?_
        refine a_i2l dX12_wayOf_96 ?_
        refine a_lmul dX12_wayOf_97 ?_
        refine a_ladd dX12_wayOf_98 ?_
        refine a_ldc2 (k := 12) cl_X12_365 (n_litL (by decide)) dX12_wayOf_99 ?_
        refine a_ldiv dX12_wayOf_102 (by decide) ?_
        refine a_l2i dX12_wayOf_103 ?_
        exact a_iret dX12_wayOf_104 h49
    · refine a_aload_n dX12_wayOf_23 rfl rfl ?_
      refine a_iload_n dX12_wayOf_24 rfl rfl ?_
      refine a_iconst (k := 0) dX12_wayOf_25 (n_lit (by decide)) ?_
      refine iv_X12_362 dX12_wayOf_26 (Nat.le_of_ble_eq_true rfl) (MtX_mono ((h.2 c1).2 c31) (fun r m51 hq => ?_))
      obtain ⟨x53, rfl, h52⟩ := hq
      refine ⟨x53, rfl, ?_⟩
      refine a_goto (tgt := 58) dX12_wayOf_29 (by decide) ?_
      refine a_istore dX12_wayOf_58 (by decide) rfl ?_
      refine a_iload_n dX12_wayOf_60 rfl rfl ?_
      refine a_i2l dX12_wayOf_61 ?_
      refine a_aload_n dX12_wayOf_62 rfl rfl ?_
      refine a_iload_n dX12_wayOf_63 rfl rfl ?_
      refine a_iconst (k := 1) dX12_wayOf_64 (n_lit (by decide)) ?_
      refine a_iadd dX12_wayOf_65 ?_
      refine a_iconst (k := 0) dX12_wayOf_66 (n_lit (by decide)) ?_
      refine iv_X12_362 dX12_wayOf_67 (Nat.le_of_ble_eq_true rfl) (MtX_mono h52 (fun r m54 hq => ?_))
      obtain ⟨x56, rfl, h55⟩ := hq
      refine ⟨x56, rfl, ?_⟩
      refine a_i2l dX12_wayOf_70 ?_
      refine a_lmul dX12_wayOf_71 ?_
      refine a_iload dX12_wayOf_72 rfl ?_
      refine a_i2l dX12_wayOf_74 ?_
      refine a_aload_n dX12_wayOf_75 rfl rfl ?_
      refine a_iload_n dX12_wayOf_76 rfl rfl ?_
      refine a_iconst (k := 1) dX12_wayOf_77 (n_lit (by decide)) ?_
      refine a_isub dX12_wayOf_78 ?_
      refine a_iconst (k := 0) dX12_wayOf_79 (n_lit (by decide)) ?_
      refine iv_X12_362 dX12_wayOf_80 (Nat.le_of_ble_eq_true rfl) (MtX_mono h55 (fun r m57 hq => ?_))
      obtain ⟨x59, rfl, h58⟩ := hq
      refine ⟨x59, rfl, ?_⟩
      refine a_i2l dX12_wayOf_83 ?_
      refine a_lmul dX12_wayOf_84 ?_
      refine a_ladd dX12_wayOf_85 ?_
      refine a_bipush (k := 12) dX12_wayOf_86 (by decide) (n_lit (by decide)) ?_
      refine a_iload_n dX12_wayOf_88 rfl rfl ?_
      refine a_isub dX12_wayOf_89 ?_
      refine a_iload dX12_wayOf_90 rfl ?_
      refine a_isub dX12_wayOf_92 ?_
      refine a_i2l dX12_wayOf_93 ?_
      refine a_iload dX12_wayOf_94 rfl ?_
      refine a_i2l dX12_wayOf_96 ?_
      refine a_lmul dX12_wayOf_97 ?_
      refine a_ladd dX12_wayOf_98 ?_
      refine a_ldc2 (k := 12) cl_X12_365 (n_litL (by decide)) dX12_wayOf_99 ?_
      refine a_ldiv dX12_wayOf_102 (by decide) ?_
      refine a_l2i dX12_wayOf_103 ?_
      exact a_iret dX12_wayOf_104 h58
set_option maxRecDepth 10000 in
theorem sg_X12_ourRaid_0 {d : Nat} {sx : Option (List Int)} (a1 : Int) (a2 : Int) (a3 : Int) (mem : AMem) (Q : Option AV → AMem → Prop) (h : (0 ≤ (7 : Int) ∧ (7 : Int) < 10) ∧ ((0 ≤ (8 : Int) ∧ (8 : Int) < 10) ∧ (MtX yX12_wayOf cX12_wayOf 8 (some .int) d [vr 12 0, vi (mem 1306 0 7), vi (mem 1306 0 8), vi a1, vi a2, vi a3] mem (fun r m1 => ∃ x3 : Int, r = some (vi x3) ∧ ((0 ≤ (5 : Int) ∧ (5 : Int) < 10) ∧ ((0 ≤ (6 : Int) ∧ (6 : Int) < 10) ∧ (MtX yX12_wayOf cX12_wayOf 8 (some .int) d [vr 12 0, vi (m1 1306 0 5), vi (m1 1306 0 6), vi a1, vi a2, vi a3] m1 (fun r m4 => ∃ x6 : Int, r = some (vi x6) ∧ ((x6 ≤ x3 → ((x6 ≤ x3 → (Q (some (vi x3)) (upM m4 12 0 44 0))) ∧ (¬ x6 ≤ x3 → (Q (some (vi x6)) (upM m4 12 0 44 0))))) ∧ (¬ x6 ≤ x3 → ((x6 ≤ x3 → (Q (some (vi x3)) (upM m4 12 0 44 1))) ∧ (¬ x6 ≤ x3 → (Q (some (vi x6)) (upM m4 12 0 44 1)))))))))))))) : Y cX12_ourRaid 6 RX12 (d + 1) sx 0 [some (vr 12 0), some (vi a1), some (vi a2), some (vi a3), none, none] [] mem Q := by
  refine a_aload_n dX12_ourRaid_0 rfl rfl ?_
  refine a_aload_n dX12_ourRaid_1 rfl rfl ?_
  refine gf_X12_22 dX12_ourRaid_2 ?_
  refine a_bipush (k := 7) dX12_ourRaid_5 (by decide) (n_lit (by decide)) ?_
  refine a_iald rfl rfl (by decide) rfl dX12_ourRaid_7 ⟨h.1, ?_⟩
  refine a_aload_n dX12_ourRaid_8 rfl rfl ?_
  refine gf_X12_22 dX12_ourRaid_9 ?_
  refine a_bipush (k := 8) dX12_ourRaid_12 (by decide) (n_lit (by decide)) ?_
  refine a_iald rfl rfl (by decide) rfl dX12_ourRaid_14 ⟨h.2.1, ?_⟩
  refine a_iload_n dX12_ourRaid_15 rfl rfl ?_
  refine a_iload_n dX12_ourRaid_16 rfl rfl ?_
  refine a_iload_n dX12_ourRaid_17 rfl rfl ?_
  refine iv_X12_367 dX12_ourRaid_18 (Nat.le_of_ble_eq_true rfl) (MtX_mono h.2.2 (fun r m1 hq => ?_))
  obtain ⟨x3, rfl, h2⟩ := hq
  refine ⟨x3, rfl, ?_⟩
  refine a_istore dX12_ourRaid_21 (by decide) rfl ?_
  refine a_aload_n dX12_ourRaid_23 rfl rfl ?_
  refine a_aload_n dX12_ourRaid_24 rfl rfl ?_
  refine gf_X12_22 dX12_ourRaid_25 ?_
  refine a_iconst (k := 5) dX12_ourRaid_28 (n_lit (by decide)) ?_
  refine a_iald rfl rfl (by decide) rfl dX12_ourRaid_29 ⟨h2.1, ?_⟩
  refine a_aload_n dX12_ourRaid_30 rfl rfl ?_
  refine gf_X12_22 dX12_ourRaid_31 ?_
  refine a_bipush (k := 6) dX12_ourRaid_34 (by decide) (n_lit (by decide)) ?_
  refine a_iald rfl rfl (by decide) rfl dX12_ourRaid_36 ⟨h2.2.1, ?_⟩
  refine a_iload_n dX12_ourRaid_37 rfl rfl ?_
  refine a_iload_n dX12_ourRaid_38 rfl rfl ?_
  refine a_iload_n dX12_ourRaid_39 rfl rfl ?_
  refine iv_X12_367 dX12_ourRaid_40 (Nat.le_of_ble_eq_true rfl) (MtX_mono h2.2.2 (fun r m4 hq => ?_))
  obtain ⟨x6, rfl, h5⟩ := hq
  refine ⟨x6, rfl, ?_⟩
  refine a_istore dX12_ourRaid_43 (by decide) rfl ?_
  refine a_aload_n dX12_ourRaid_45 rfl rfl ?_
  refine a_iload dX12_ourRaid_46 rfl ?_
  refine a_iload dX12_ourRaid_48 rfl ?_
  refine a_icmp_le (tgt := 57) dX12_ourRaid_50 (by decide) ⟨fun c7 => ?_, fun c7 => ?_⟩
  · refine a_iconst (k := 0) dX12_ourRaid_57 (n_lit (by decide)) ?_
    refine pf_X12_371 dX12_ourRaid_58 ?_
    refine a_iload dX12_ourRaid_61 rfl ?_
    refine a_iload dX12_ourRaid_63 rfl ?_
    refine a_icmp_le (tgt := 73) dX12_ourRaid_65 (by decide) ⟨fun c8 => ?_, fun c8 => ?_⟩
    · refine a_iload dX12_ourRaid_73 rfl ?_
      exact a_iret dX12_ourRaid_75 ((h5.1 c7).1 c8)
    · refine a_iload dX12_ourRaid_68 rfl ?_
      refine a_goto (tgt := 75) dX12_ourRaid_70 (by decide) ?_
      exact a_iret dX12_ourRaid_75 ((h5.1 c7).2 c8)
  · refine a_iconst (k := 1) dX12_ourRaid_53 (n_lit (by decide)) ?_
    refine a_goto (tgt := 58) dX12_ourRaid_54 (by decide) ?_
    refine pf_X12_371 dX12_ourRaid_58 ?_
    refine a_iload dX12_ourRaid_61 rfl ?_
    refine a_iload dX12_ourRaid_63 rfl ?_
    refine a_icmp_le (tgt := 73) dX12_ourRaid_65 (by decide) ⟨fun c9 => ?_, fun c9 => ?_⟩
    · refine a_iload dX12_ourRaid_73 rfl ?_
      exact a_iret dX12_ourRaid_75 ((h5.2 c7).1 c9)
    · refine a_iload dX12_ourRaid_68 rfl ?_
      refine a_goto (tgt := 75) dX12_ourRaid_70 (by decide) ?_
      exact a_iret dX12_ourRaid_75 ((h5.2 c7).2 c9)
set_option maxRecDepth 10000 in
theorem sg_X12_theirRaid_0 {d : Nat} {sx : Option (List Int)} (a1 : Int) (a2 : Int) (mem : AMem) (Q : Option AV → AMem → Prop) (h : (0 ≤ (9 : Int) ∧ (9 : Int) < 10) ∧ (MtX yX12_thenAt cX12_thenAt 3 (some .int) d [vr 12 0, vi (w32 (a1 - 1)), vi a2] mem (fun r m1 => ∃ x3 : Int, r = some (vi x3) ∧ ((0 ≤ (9 : Int) ∧ (9 : Int) < 10) ∧ (MtX yX12_thenAt cX12_thenAt 3 (some .int) d [vr 12 0, vi a1, vi a2] m1 (fun r m4 => ∃ x6 : Int, r = some (vi x6) ∧ (Q (some (vi (w32 (w64 (Int.tdiv (w64 ((w64 ((mem 1306 0 9) * x3)) + (w64 ((w32 (12 - (m1 1306 0 9))) * x6)))) 12))))) m4))))))) : Y cX12_theirRaid 3 RX12 (d + 1) sx 0 [some (vr 12 0), some (vi a1), some (vi a2)] [] mem Q := by
  refine a_aload_n dX12_theirRaid_0 rfl rfl ?_
  refine gf_X12_22 dX12_theirRaid_1 ?_
  refine a_bipush (k := 9) dX12_theirRaid_4 (by decide) (n_lit (by decide)) ?_
  refine a_iald rfl rfl (by decide) rfl dX12_theirRaid_6 ⟨h.1, ?_⟩
  refine a_i2l dX12_theirRaid_7 ?_
  refine a_aload_n dX12_theirRaid_8 rfl rfl ?_
  refine a_iload_n dX12_theirRaid_9 rfl rfl ?_
  refine a_iconst (k := 1) dX12_theirRaid_10 (n_lit (by decide)) ?_
  refine a_isub dX12_theirRaid_11 ?_
  refine a_iload_n dX12_theirRaid_12 rfl rfl ?_
  refine iv_X12_362 dX12_theirRaid_13 (Nat.le_of_ble_eq_true rfl) (MtX_mono h.2 (fun r m1 hq => ?_))
  obtain ⟨x3, rfl, h2⟩ := hq
  refine ⟨x3, rfl, ?_⟩
  refine a_i2l dX12_theirRaid_16 ?_
  refine a_lmul dX12_theirRaid_17 ?_
  refine a_bipush (k := 12) dX12_theirRaid_18 (by decide) (n_lit (by decide)) ?_
  refine a_aload_n dX12_theirRaid_20 rfl rfl ?_
  refine gf_X12_22 dX12_theirRaid_21 ?_
  refine a_bipush (k := 9) dX12_theirRaid_24 (by decide) (n_lit (by decide)) ?_
  refine a_iald rfl rfl (by decide) rfl dX12_theirRaid_26 ⟨h2.1, ?_⟩
  refine a_isub dX12_theirRaid_27 ?_
  refine a_i2l dX12_theirRaid_28 ?_
  refine a_aload_n dX12_theirRaid_29 rfl rfl ?_
  refine a_iload_n dX12_theirRaid_30 rfl rfl ?_
  refine a_iload_n dX12_theirRaid_31 rfl rfl ?_
  refine iv_X12_362 dX12_theirRaid_32 (Nat.le_of_ble_eq_true rfl) (MtX_mono h2.2 (fun r m4 hq => ?_))
  obtain ⟨x6, rfl, h5⟩ := hq
  refine ⟨x6, rfl, ?_⟩
  refine a_i2l dX12_theirRaid_35 ?_
  refine a_lmul dX12_theirRaid_36 ?_
  refine a_ladd dX12_theirRaid_37 ?_
  refine a_ldc2 (k := 12) cl_X12_365 (n_litL (by decide)) dX12_theirRaid_38 ?_
  refine a_ldiv dX12_theirRaid_41 (by decide) ?_
  refine a_l2i dX12_theirRaid_42 ?_
  exact a_iret dX12_theirRaid_43 h5
set_option maxRecDepth 10000 in
theorem sg_X12_layThen_0 {d : Nat} {sx : Option (List Int)}  (mem : AMem) (Q : Option AV → AMem → Prop) (h : Y cX12_layThen 2 RX12 (d + 1) sx 2 [some (vr 12 0), some (vi 0)] [] mem Q) : Y cX12_layThen 2 RX12 (d + 1) sx 0 [some (vr 12 0), none] [] mem Q := by
  refine a_iconst (k := 0) dX12_layThen_0 (n_lit (by decide)) ?_
  refine a_istore_n dX12_layThen_1 rfl (by decide) rfl ?_
  exact h
set_option maxRecDepth 10000 in
theorem sg_X12_layThen_2 {d : Nat} {sx : Option (List Int)} (a1 : Int) (mem : AMem) (Q : Option AV → AMem → Prop) (h : ((429 : Int) ≤ a1 → (Q none mem)) ∧ (¬ (429 : Int) ≤ a1 → ((0 ≤ a1 ∧ a1 < 429) ∧ ((0 ≤ a1 ∧ a1 < 429) ∧ (Y cX12_layThen 2 RX12 (d + 1) sx 2 [some (vr 12 0), some (vi (w32 (a1 + 1)))] [] (upM mem 1343 0 a1 (mem 1342 0 a1)) Q))))) : Y cX12_layThen 2 RX12 (d + 1) sx 2 [some (vr 12 0), some (vi a1)] [] mem Q := by
  refine a_iload_n dX12_layThen_2 rfl rfl ?_
  refine a_sipush (k := 429) dX12_layThen_3 (by decide) (n_lit (by decide)) ?_
  refine a_icmp_ge (tgt := 27) dX12_layThen_6 (by decide) ⟨fun c1 => ?_, fun c1 => ?_⟩
  · exact a_vret dX12_layThen_27 (h.1 c1)
  · refine a_aload_n dX12_layThen_9 rfl rfl ?_
    refine gf_X12_78 dX12_layThen_10 ?_
    refine a_iload_n dX12_layThen_13 rfl rfl ?_
    refine a_aload_n dX12_layThen_14 rfl rfl ?_
    refine gf_X12_75 dX12_layThen_15 ?_
    refine a_iload_n dX12_layThen_18 rfl rfl ?_
    refine a_iald rfl rfl (by decide) rfl dX12_layThen_19 ⟨(h.2 c1).1, ?_⟩
    refine a_iast rfl rfl (by decide) rfl dX12_layThen_20 ⟨(h.2 c1).2.1, ?_⟩
    refine a_iinc dX12_layThen_21 rfl (by decide) rfl ?_
    refine a_goto (tgt := 2) dX12_layThen_24 (by decide) ?_
    exact (h.2 c1).2.2
set_option maxRecDepth 10000 in
theorem sg_X12_findOdds_0 {d : Nat} {sx : Option (List Int)} (a1 : Int) (a2 : Int) (mem : AMem) (Q : Option AV → AMem → Prop) (h : Y cX12_findOdds 7 RX12 (d + 1) sx 2 [some (vr 12 0), some (vi a1), some (vi a2), some (vi 0), none, none, none] [] mem Q) : Y cX12_findOdds 7 RX12 (d + 1) sx 0 [some (vr 12 0), some (vi a1), some (vi a2), none, none, none, none] [] mem Q := by
  refine a_iconst (k := 0) dX12_findOdds_0 (n_lit (by decide)) ?_
  refine a_istore_n dX12_findOdds_1 rfl (by decide) rfl ?_
  exact h
set_option maxRecDepth 10000 in
theorem sg_X12_findOdds_2 {d : Nat} {sx : Option (List Int)} (a1 : Int) (a2 : Int) (a3 : Int) (mem : AMem) (Q : Option AV → AMem → Prop) (h : ((3 : Int) ≤ a3 → (MtX yX12_layThen cX12_layThen 2 none d [vr 12 0] mem (fun r m2 => r = none ∧ (Y cX12_findOdds 7 RX12 (d + 1) sx 75 [some (vr 12 0), some (vi a1), some (vi a2), some (vi 1), none, none, none] [] m2 Q)))) ∧ (¬ (3 : Int) ≤ a3 → (Y cX12_findOdds 7 RX12 (d + 1) sx 11 [some (vr 12 0), some (vi a1), some (vi a2), some (vi a3), some (vi (-71)), none, none] [] mem Q))) : Y cX12_findOdds 7 RX12 (d + 1) sx 2 [some (vr 12 0), some (vi a1), some (vi a2), some (vi a3), none, none, none] [] mem Q := by
  refine a_iload_n dX12_findOdds_2 rfl rfl ?_
  refine a_iconst (k := 3) dX12_findOdds_3 (n_lit (by decide)) ?_
  refine a_icmp_ge (tgt := 69) dX12_findOdds_4 (by decide) ⟨fun c1 => ?_, fun c1 => ?_⟩
  · refine a_aload_n dX12_findOdds_69 rfl rfl ?_
    refine iv_X12_376 dX12_findOdds_70 (Nat.le_of_ble_eq_true rfl) (MtX_mono (h.1 c1) (fun r m2 hq => ?_))
    obtain ⟨rfl, h3⟩ := hq
    refine ⟨rfl, ?_⟩
    refine a_iconst (k := 1) dX12_findOdds_73 (n_lit (by decide)) ?_
    refine a_istore_n dX12_findOdds_74 rfl (by decide) rfl ?_
    exact h3
  · refine a_bipush (k := (-71)) dX12_findOdds_7 (by decide) (n_lit (by decide)) ?_
    refine a_istore dX12_findOdds_9 (by decide) rfl ?_
    exact (h.2 c1)
set_option maxRecDepth 10000 in
theorem sg_X12_findOdds_11 {d : Nat} {sx : Option (List Int)} (a1 : Int) (a2 : Int) (a3 : Int) (a4 : Int) (mem : AMem) (Q : Option AV → AMem → Prop) (h : ((71 : Int) < a4 → (Y cX12_findOdds 7 RX12 (d + 1) sx 2 [some (vr 12 0), some (vi a1), some (vi a2), some (vi (w32 (a3 + 1))), some (vi a4), none, none] [] mem Q)) ∧ (¬ (71 : Int) < a4 → ((a4 ≤ (0 : Int) → ((a4 ≠ (0 : Int) → ((0 ≤ (w32 ((w32 ((w32 (143 * a3)) + a4)) + 71)) ∧ (w32 ((w32 ((w32 (143 * a3)) + a4)) + 71)) < 429) ∧ (Y cX12_findOdds 7 RX12 (d + 1) sx 11 [some (vr 12 0), some (vi a1), some (vi a2), some (vi a3), some (vi (w32 (a4 + 1))), none, none] [] (upM mem 1342 0 (w32 ((w32 ((w32 (143 * a3)) + a4)) + 71)) 0) Q))) ∧ (a4 = (0 : Int) → ((0 ≤ (w32 ((w32 ((w32 (143 * a3)) + a4)) + 71)) ∧ (w32 ((w32 ((w32 (143 * a3)) + a4)) + 71)) < 429) ∧ (Y cX12_findOdds 7 RX12 (d + 1) sx 11 [some (vr 12 0), some (vi a1), some (vi a2), some (vi a3), some (vi (w32 (a4 + 1))), none, none] [] (upM mem 1342 0 (w32 ((w32 ((w32 (143 * a3)) + a4)) + 71)) 500000) Q))))) ∧ (¬ a4 ≤ (0 : Int) → ((0 ≤ (w32 ((w32 ((w32 (143 * a3)) + a4)) + 71)) ∧ (w32 ((w32 ((w32 (143 * a3)) + a4)) + 71)) < 429) ∧ (Y cX12_findOdds 7 RX12 (d + 1) sx 11 [some (vr 12 0), some (vi a1), some (vi a2), some (vi a3), some (vi (w32 (a4 + 1))), none, none] [] (upM mem 1342 0 (w32 ((w32 ((w32 (143 * a3)) + a4)) + 71)) 1000000) Q)))))) : Y cX12_findOdds 7 RX12 (d + 1) sx 11 [some (vr 12 0), some (vi a1), some (vi a2), some (vi a3), some (vi a4), none, none] [] mem Q := by
  refine a_iload dX12_findOdds_11 rfl ?_
  refine a_bipush (k := 71) dX12_findOdds_13 (by decide) (n_lit (by decide)) ?_
  refine a_icmp_gt (tgt := 63) dX12_findOdds_15 (by decide) ⟨fun c1 => ?_, fun c1 => ?_⟩
  · refine a_iinc dX12_findOdds_63 rfl (by decide) rfl ?_
    refine a_goto (tgt := 2) dX12_findOdds_66 (by decide) ?_
    exact (h.1 c1)
  · refine a_aload_n dX12_findOdds_18 rfl rfl ?_
    refine gf_X12_75 dX12_findOdds_19 ?_
    refine a_sipush (k := 143) dX12_findOdds_22 (by decide) (n_lit (by decide)) ?_
    refine a_iload_n dX12_findOdds_25 rfl rfl ?_
    refine a_imul dX12_findOdds_26 ?_
    refine a_iload dX12_findOdds_27 rfl ?_
    refine a_iadd dX12_findOdds_29 ?_
    refine a_bipush (k := 71) dX12_findOdds_30 (by decide) (n_lit (by decide)) ?_
    refine a_iadd dX12_findOdds_32 ?_
    refine a_iload dX12_findOdds_33 rfl ?_
    refine a_if_le (tgt := 44) dX12_findOdds_35 (by decide) ⟨fun c2 => ?_, fun c2 => ?_⟩
    · refine a_iload dX12_findOdds_44 rfl ?_
      refine a_if_ne (tgt := 55) dX12_findOdds_46 (by decide) ⟨fun c3 => ?_, fun c3 => ?_⟩
      · refine a_iconst (k := 0) dX12_findOdds_55 (n_lit (by decide)) ?_
        refine a_iast rfl rfl (by decide) rfl dX12_findOdds_56 ⟨(((h.2 c1).1 c2).1 c3).1, ?_⟩
        refine a_iinc dX12_findOdds_57 rfl (by decide) rfl ?_
        refine a_goto (tgt := 11) dX12_findOdds_60 (by decide) ?_
        exact (((h.2 c1).1 c2).1 c3).2
      · refine a_ldcw (k := 500000) co_X12_375 (n_lit (by decide)) dX12_findOdds_49 ?_
        refine a_goto (tgt := 56) dX12_findOdds_52 (by decide) ?_
        refine a_iast rfl rfl (by decide) rfl dX12_findOdds_56 ⟨(((h.2 c1).1 c2).2 c3).1, ?_⟩
        refine a_iinc dX12_findOdds_57 rfl (by decide) rfl ?_
        refine a_goto (tgt := 11) dX12_findOdds_60 (by decide) ?_
        exact (((h.2 c1).1 c2).2 c3).2
    · refine a_ldcw (k := 1000000) co_X12_374 (n_lit (by decide)) dX12_findOdds_38 ?_
      refine a_goto (tgt := 56) dX12_findOdds_41 (by decide) ?_
      refine a_iast rfl rfl (by decide) rfl dX12_findOdds_56 ⟨((h.2 c1).2 c2).1, ?_⟩
      refine a_iinc dX12_findOdds_57 rfl (by decide) rfl ?_
      refine a_goto (tgt := 11) dX12_findOdds_60 (by decide) ?_
      exact ((h.2 c1).2 c2).2
set_option maxRecDepth 10000 in
theorem sg_X12_findOdds_75 {d : Nat} {sx : Option (List Int)} (a1 : Int) (a2 : Int) (a3 : Int) (mem : AMem) (Q : Option AV → AMem → Prop) (h : (a1 < a3 → (Q none mem)) ∧ (¬ a1 < a3 → (Y cX12_findOdds 7 RX12 (d + 1) sx 93 [some (vr 12 0), some (vi a1), some (vi a2), some (vi a3), some (vi (w32 ((w32 (71 - (w32 (2 * a3)))) + 1))), some (vi 0), none] [] mem Q))) : Y cX12_findOdds 7 RX12 (d + 1) sx 75 [some (vr 12 0), some (vi a1), some (vi a2), some (vi a3), none, none, none] [] mem Q := by
  refine a_iload_n dX12_findOdds_75 rfl rfl ?_
  refine a_iload_n dX12_findOdds_76 rfl rfl ?_
  refine a_icmp_gt (tgt := 228) dX12_findOdds_77 (by decide) ⟨fun c1 => ?_, fun c1 => ?_⟩
  · exact a_vret dX12_findOdds_228 (h.1 c1)
  · refine a_bipush (k := 71) dX12_findOdds_80 (by decide) (n_lit (by decide)) ?_
    refine a_iconst (k := 2) dX12_findOdds_82 (n_lit (by decide)) ?_
    refine a_iload_n dX12_findOdds_83 rfl rfl ?_
    refine a_imul dX12_findOdds_84 ?_
    refine a_isub dX12_findOdds_85 ?_
    refine a_iconst (k := 1) dX12_findOdds_86 (n_lit (by decide)) ?_
    refine a_iadd dX12_findOdds_87 ?_
    refine a_istore dX12_findOdds_88 (by decide) rfl ?_
    refine a_iconst (k := 0) dX12_findOdds_90 (n_lit (by decide)) ?_
    refine a_istore dX12_findOdds_91 (by decide) rfl ?_
    exact (h.2 c1)
set_option maxRecDepth 10000 in
theorem sg_X12_findOdds_93 {d : Nat} {sx : Option (List Int)} (a1 : Int) (a2 : Int) (a3 : Int) (a4 : Int) (a5 : Int) (mem : AMem) (Q : Option AV → AMem → Prop) (h : ((3 : Int) ≤ a5 → (MtX yX12_layThen cX12_layThen 2 none d [vr 12 0] mem (fun r m2 => r = none ∧ ((a3 ≠ a1 → (Y cX12_findOdds 7 RX12 (d + 1) sx 161 [some (vr 12 0), some (vi a1), some (vi a2), some (vi a3), some (vi a4), some (vi 0), none] [] m2 Q)) ∧ (a3 = a1 → (Q none m2)))))) ∧ (¬ (3 : Int) ≤ a5 → (Y cX12_findOdds 7 RX12 (d + 1) sx 104 [some (vr 12 0), some (vi a1), some (vi a2), some (vi a3), some (vi a4), some (vi a5), some (vi (w32 (-a4)))] [] mem Q))) : Y cX12_findOdds 7 RX12 (d + 1) sx 93 [some (vr 12 0), some (vi a1), some (vi a2), some (vi a3), some (vi a4), some (vi a5), none] [] mem Q := by
  refine a_iload dX12_findOdds_93 rfl ?_
  refine a_iconst (k := 3) dX12_findOdds_95 (n_lit (by decide)) ?_
  refine a_icmp_ge (tgt := 148) dX12_findOdds_96 (by decide) ⟨fun c1 => ?_, fun c1 => ?_⟩
  · refine a_aload_n dX12_findOdds_148 rfl rfl ?_
    refine iv_X12_376 dX12_findOdds_149 (Nat.le_of_ble_eq_true rfl) (MtX_mono (h.1 c1) (fun r m2 hq => ?_))
    obtain ⟨rfl, h3⟩ := hq
    refine ⟨rfl, ?_⟩
    refine a_iload_n dX12_findOdds_152 rfl rfl ?_
    refine a_iload_n dX12_findOdds_153 rfl rfl ?_
    refine a_icmp_ne (tgt := 158) dX12_findOdds_154 (by decide) ⟨fun c4 => ?_, fun c4 => ?_⟩
    · refine a_iconst (k := 0) dX12_findOdds_158 (n_lit (by decide)) ?_
      refine a_istore dX12_findOdds_159 (by decide) rfl ?_
      exact (h3.1 c4)
    · exact a_vret dX12_findOdds_157 (h3.2 c4)
  · refine a_iload dX12_findOdds_99 rfl ?_
    refine a_ineg dX12_findOdds_101 ?_
    refine a_istore dX12_findOdds_102 (by decide) rfl ?_
    exact (h.2 c1)
set_option maxRecDepth 10000 in
theorem sg_X12_findOdds_104 {d : Nat} {sx : Option (List Int)} (a1 : Int) (a2 : Int) (a3 : Int) (a4 : Int) (a5 : Int) (a6 : Int) (mem : AMem) (Q : Option AV → AMem → Prop) (h : (a4 < a6 → (Y cX12_findOdds 7 RX12 (d + 1) sx 93 [some (vr 12 0), some (vi a1), some (vi a2), some (vi a3), some (vi a4), some (vi (w32 (a5 + 1))), some (vi a6)] [] mem Q)) ∧ (¬ a4 < a6 → (MtX yX12_theirRaid cX12_theirRaid 3 (some .int) d [vr 12 0, vi a6, vi a5] mem (fun r m2 => ∃ x4 : Int, r = some (vi x4) ∧ ((0 ≤ (w32 ((w32 ((w32 (143 * a5)) + a6)) + 71)) ∧ (w32 ((w32 ((w32 (143 * a5)) + a6)) + 71)) < 429) ∧ (Y cX12_findOdds 7 RX12 (d + 1) sx 104 [some (vr 12 0), some (vi a1), some (vi a2), some (vi a3), some (vi a4), some (vi a5), some (vi (w32 (a6 + 1)))] [] (upM m2 1342 0 (w32 ((w32 ((w32 (143 * a5)) + a6)) + 71)) x4) Q)))))) : Y cX12_findOdds 7 RX12 (d + 1) sx 104 [some (vr 12 0), some (vi a1), some (vi a2), some (vi a3), some (vi a4), some (vi a5), some (vi a6)] [] mem Q := by
  refine a_iload dX12_findOdds_104 rfl ?_
  refine a_iload dX12_findOdds_106 rfl ?_
  refine a_icmp_gt (tgt := 142) dX12_findOdds_108 (by decide) ⟨fun c1 => ?_, fun c1 => ?_⟩
  · refine a_iinc dX12_findOdds_142 rfl (by decide) rfl ?_
    refine a_goto (tgt := 93) dX12_findOdds_145 (by decide) ?_
    exact (h.1 c1)
  · refine a_aload_n dX12_findOdds_111 rfl rfl ?_
    refine gf_X12_75 dX12_findOdds_112 ?_
    refine a_sipush (k := 143) dX12_findOdds_115 (by decide) (n_lit (by decide)) ?_
    refine a_iload dX12_findOdds_118 rfl ?_
    refine a_imul dX12_findOdds_120 ?_
    refine a_iload dX12_findOdds_121 rfl ?_
    refine a_iadd dX12_findOdds_123 ?_
    refine a_bipush (k := 71) dX12_findOdds_124 (by decide) (n_lit (by decide)) ?_
    refine a_iadd dX12_findOdds_126 ?_
    refine a_aload_n dX12_findOdds_127 rfl rfl ?_
    refine a_iload dX12_findOdds_128 rfl ?_
    refine a_iload dX12_findOdds_130 rfl ?_
    refine iv_X12_379 dX12_findOdds_132 (Nat.le_of_ble_eq_true rfl) (MtX_mono (h.2 c1) (fun r m2 hq => ?_))
    obtain ⟨x4, rfl, h3⟩ := hq
    refine ⟨x4, rfl, ?_⟩
    refine a_iast rfl rfl (by decide) rfl dX12_findOdds_135 ⟨h3.1, ?_⟩
    refine a_iinc dX12_findOdds_136 rfl (by decide) rfl ?_
    refine a_goto (tgt := 104) dX12_findOdds_139 (by decide) ?_
    exact h3.2
set_option maxRecDepth 10000 in
theorem sg_X12_findOdds_161 {d : Nat} {sx : Option (List Int)} (a1 : Int) (a2 : Int) (a3 : Int) (a4 : Int) (a5 : Int) (mem : AMem) (Q : Option AV → AMem → Prop) (h : ((3 : Int) ≤ a5 → (MtX yX12_layThen cX12_layThen 2 none d [vr 12 0] mem (fun r m2 => r = none ∧ (Y cX12_findOdds 7 RX12 (d + 1) sx 75 [some (vr 12 0), some (vi a1), some (vi a2), some (vi (w32 (a3 + 1))), some (vi a4), some (vi a5), none] [] m2 Q)))) ∧ (¬ (3 : Int) ≤ a5 → (Y cX12_findOdds 7 RX12 (d + 1) sx 173 [some (vr 12 0), some (vi a1), some (vi a2), some (vi a3), some (vi a4), some (vi a5), some (vi (w32 (1 - a4)))] [] mem Q))) : Y cX12_findOdds 7 RX12 (d + 1) sx 161 [some (vr 12 0), some (vi a1), some (vi a2), some (vi a3), some (vi a4), some (vi a5), none] [] mem Q := by
  refine a_iload dX12_findOdds_161 rfl ?_
  refine a_iconst (k := 3) dX12_findOdds_163 (n_lit (by decide)) ?_
  refine a_icmp_ge (tgt := 218) dX12_findOdds_164 (by decide) ⟨fun c1 => ?_, fun c1 => ?_⟩
  · refine a_aload_n dX12_findOdds_218 rfl rfl ?_
    refine iv_X12_376 dX12_findOdds_219 (Nat.le_of_ble_eq_true rfl) (MtX_mono (h.1 c1) (fun r m2 hq => ?_))
    obtain ⟨rfl, h3⟩ := hq
    refine ⟨rfl, ?_⟩
    refine a_iinc dX12_findOdds_222 rfl (by decide) rfl ?_
    refine a_goto (tgt := 75) dX12_findOdds_225 (by decide) ?_
    exact h3
  · refine a_iconst (k := 1) dX12_findOdds_167 (n_lit (by decide)) ?_
    refine a_iload dX12_findOdds_168 rfl ?_
    refine a_isub dX12_findOdds_170 ?_
    refine a_istore dX12_findOdds_171 (by decide) rfl ?_
    exact (h.2 c1)
set_option maxRecDepth 10000 in
theorem sg_X12_findOdds_173 {d : Nat} {sx : Option (List Int)} (a1 : Int) (a2 : Int) (a3 : Int) (a4 : Int) (a5 : Int) (a6 : Int) (mem : AMem) (Q : Option AV → AMem → Prop) (h : (a4 ≤ a6 → (Y cX12_findOdds 7 RX12 (d + 1) sx 161 [some (vr 12 0), some (vi a1), some (vi a2), some (vi a3), some (vi a4), some (vi (w32 (a5 + 1))), some (vi a6)] [] mem Q)) ∧ (¬ a4 ≤ a6 → (MtX yX12_ourRaid cX12_ourRaid 6 (some .int) d [vr 12 0, vi a6, vi a5, vi a2] mem (fun r m2 => ∃ x4 : Int, r = some (vi x4) ∧ ((0 ≤ (w32 ((w32 ((w32 (143 * a5)) + a6)) + 71)) ∧ (w32 ((w32 ((w32 (143 * a5)) + a6)) + 71)) < 429) ∧ (Y cX12_findOdds 7 RX12 (d + 1) sx 173 [some (vr 12 0), some (vi a1), some (vi a2), some (vi a3), some (vi a4), some (vi a5), some (vi (w32 (a6 + 1)))] [] (upM m2 1342 0 (w32 ((w32 ((w32 (143 * a5)) + a6)) + 71)) x4) Q)))))) : Y cX12_findOdds 7 RX12 (d + 1) sx 173 [some (vr 12 0), some (vi a1), some (vi a2), some (vi a3), some (vi a4), some (vi a5), some (vi a6)] [] mem Q := by
  refine a_iload dX12_findOdds_173 rfl ?_
  refine a_iload dX12_findOdds_175 rfl ?_
  refine a_icmp_ge (tgt := 212) dX12_findOdds_177 (by decide) ⟨fun c1 => ?_, fun c1 => ?_⟩
  · refine a_iinc dX12_findOdds_212 rfl (by decide) rfl ?_
    refine a_goto (tgt := 161) dX12_findOdds_215 (by decide) ?_
    exact (h.1 c1)
  · refine a_aload_n dX12_findOdds_180 rfl rfl ?_
    refine gf_X12_75 dX12_findOdds_181 ?_
    refine a_sipush (k := 143) dX12_findOdds_184 (by decide) (n_lit (by decide)) ?_
    refine a_iload dX12_findOdds_187 rfl ?_
    refine a_imul dX12_findOdds_189 ?_
    refine a_iload dX12_findOdds_190 rfl ?_
    refine a_iadd dX12_findOdds_192 ?_
    refine a_bipush (k := 71) dX12_findOdds_193 (by decide) (n_lit (by decide)) ?_
    refine a_iadd dX12_findOdds_195 ?_
    refine a_aload_n dX12_findOdds_196 rfl rfl ?_
    refine a_iload dX12_findOdds_197 rfl ?_
    refine a_iload dX12_findOdds_199 rfl ?_
    refine a_iload_n dX12_findOdds_201 rfl rfl ?_
    refine iv_X12_382 dX12_findOdds_202 (Nat.le_of_ble_eq_true rfl) (MtX_mono (h.2 c1) (fun r m2 hq => ?_))
    obtain ⟨x4, rfl, h3⟩ := hq
    refine ⟨x4, rfl, ?_⟩
    refine a_iast rfl rfl (by decide) rfl dX12_findOdds_205 ⟨h3.1, ?_⟩
    refine a_iinc dX12_findOdds_206 rfl (by decide) rfl ?_
    refine a_goto (tgt := 173) dX12_findOdds_209 (by decide) ?_
    exact h3.2
set_option maxRecDepth 10000 in
theorem sg_X12_oddsOf_0 {d : Nat} {sx : Option (List Int)} (a1 : Int) (a2 : Int) (a3 : Int) (a4 : Int) (a5 : Int) (mem : AMem) (Q : Option AV → AMem → Prop) (h : MtX yX12_findOdds cX12_findOdds 7 none d [vr 12 0, vi a1, vi a5] mem (fun r m1 => r = none ∧ ((a1 ≠ (0 : Int) → (MtX yX12_ourRaid cX12_ourRaid 6 (some .int) d [vr 12 0, vi a2, vi a3, vi a5] m1 (fun r m4 => ∃ x6 : Int, r = some (vi x6) ∧ ((a4 ≠ (0 : Int) → (Q (some (vi (m4 12 0 44))) m4)) ∧ (a4 = (0 : Int) → (Q (some (vi x6)) m4)))))) ∧ (a1 = (0 : Int) → ((a4 ≠ (0 : Int) → (Q (some (vi 0)) m1)) ∧ (a4 = (0 : Int) → (MtX yX12_thenAt cX12_thenAt 3 (some .int) d [vr 12 0, vi a2, vi 0] m1 (fun r m9 => ∃ x11 : Int, r = some (vi x11) ∧ (Q (some (vi x11)) m9))))))))) : Y cX12_oddsOf 7 RX12 (d + 1) sx 0 [some (vr 12 0), some (vi a1), some (vi a2), some (vi a3), some (vi a4), some (vi a5), none] [] mem Q := by
  refine a_aload_n dX12_oddsOf_0 rfl rfl ?_
  refine a_iload_n dX12_oddsOf_1 rfl rfl ?_
  refine a_iload dX12_oddsOf_2 rfl ?_
  refine iv_X12_386 dX12_oddsOf_4 (Nat.le_of_ble_eq_true rfl) (MtX_mono h (fun r m1 hq => ?_))
  obtain ⟨rfl, h2⟩ := hq
  refine ⟨rfl, ?_⟩
  refine a_iload_n dX12_oddsOf_7 rfl rfl ?_
  refine a_if_ne (tgt := 27) dX12_oddsOf_8 (by decide) ⟨fun c3 => ?_, fun c3 => ?_⟩
  · refine a_aload_n dX12_oddsOf_27 rfl rfl ?_
    refine a_iload_n dX12_oddsOf_28 rfl rfl ?_
    refine a_iload_n dX12_oddsOf_29 rfl rfl ?_
    refine a_iload dX12_oddsOf_30 rfl ?_
    refine iv_X12_382 dX12_oddsOf_32 (Nat.le_of_ble_eq_true rfl) (MtX_mono (h2.1 c3) (fun r m4 hq => ?_))
    obtain ⟨x6, rfl, h5⟩ := hq
    refine ⟨x6, rfl, ?_⟩
    refine a_istore dX12_oddsOf_35 (by decide) rfl ?_
    refine a_iload dX12_oddsOf_37 rfl ?_
    refine a_if_ne (tgt := 47) dX12_oddsOf_39 (by decide) ⟨fun c7 => ?_, fun c7 => ?_⟩
    · refine a_aload_n dX12_oddsOf_47 rfl rfl ?_
      refine gf_X12_371 (x := m4 12 0 44) rfl dX12_oddsOf_48 ?_
      exact a_iret dX12_oddsOf_51 (h5.1 c7)
    · refine a_iload dX12_oddsOf_42 rfl ?_
      refine a_goto (tgt := 51) dX12_oddsOf_44 (by decide) ?_
      exact a_iret dX12_oddsOf_51 (h5.2 c7)
  · refine a_iload dX12_oddsOf_11 rfl ?_
    refine a_if_ne (tgt := 25) dX12_oddsOf_13 (by decide) ⟨fun c8 => ?_, fun c8 => ?_⟩
    · refine a_iconst (k := 0) dX12_oddsOf_25 (n_lit (by decide)) ?_
      exact a_iret dX12_oddsOf_26 ((h2.2 c3).1 c8)
    · refine a_aload_n dX12_oddsOf_16 rfl rfl ?_
      refine a_iload_n dX12_oddsOf_17 rfl rfl ?_
      refine a_iconst (k := 0) dX12_oddsOf_18 (n_lit (by decide)) ?_
      refine iv_X12_362 dX12_oddsOf_19 (Nat.le_of_ble_eq_true rfl) (MtX_mono ((h2.2 c3).2 c8) (fun r m9 hq => ?_))
      obtain ⟨x11, rfl, h10⟩ := hq
      refine ⟨x11, rfl, ?_⟩
      refine a_goto (tgt := 26) dX12_oddsOf_22 (by decide) ?_
      exact a_iret dX12_oddsOf_26 h10
set_option maxRecDepth 10000 in
theorem sg_X12_left_0 {d : Nat} {sx : Option (List Int)} (a1 : Int) (a2 : Int) (a3 : Int) (mem : AMem) (Q : Option AV → AMem → Prop) (h : MtX yX12_in cX12_in 3 (some .boolean) d [vi a1, vi 0, vi 20] mem (fun r m1 => ∃ x3 : Int, r = some (vi x3) ∧ ((x3 = (0 : Int) → (Q (some (vi (-1))) m1)) ∧ (¬ x3 = (0 : Int) → (MtX yX12_in cX12_in 3 (some .boolean) d [vi a2, vi (-30), vi 30] m1 (fun r m5 => ∃ x7 : Int, r = some (vi x7) ∧ ((x7 = (0 : Int) → (Q (some (vi (-1))) m5)) ∧ (¬ x7 = (0 : Int) → (MtX yX12_in cX12_in 3 (some .boolean) d [vi a3, vi 0, vi 1] m5 (fun r m9 => ∃ x11 : Int, r = some (vi x11) ∧ ((x11 = (0 : Int) → (Q (some (vi (-1))) m9)) ∧ (¬ x11 = (0 : Int) → (MtX yX12_oddsOf cX12_oddsOf 7 (some .int) d [vr 12 0, vi a1, vi a2, vi 0, vi a3, vi 0] m9 (fun r m13 => ∃ x15 : Int, r = some (vi x15) ∧ (Q (some (vi x15)) m13))))))))))))))) : Y cX12_left 4 RX12 (d + 1) sx 0 [some (vr 12 0), some (vi a1), some (vi a2), some (vi a3)] [] mem Q := by
  refine a_iload_n dX12_left_0 rfl rfl ?_
  refine a_iconst (k := 0) dX12_left_1 (n_lit (by decide)) ?_
  refine a_bipush (k := 20) dX12_left_2 (by decide) (n_lit (by decide)) ?_
  refine iv_X12_128 dX12_left_4 (Nat.le_of_ble_eq_true rfl) (MtX_mono h (fun r m1 hq => ?_))
  obtain ⟨x3, rfl, h2⟩ := hq
  refine ⟨x3, rfl, ?_⟩
  refine a_if_eq (tgt := 42) dX12_left_7 (by decide) ⟨fun c4 => ?_, fun c4 => ?_⟩
  · refine a_iconst (k := (-1)) dX12_left_42 (n_lit (by decide)) ?_
    exact a_iret dX12_left_43 (h2.1 c4)
  · refine a_iload_n dX12_left_10 rfl rfl ?_
    refine a_bipush (k := (-30)) dX12_left_11 (by decide) (n_lit (by decide)) ?_
    refine a_bipush (k := 30) dX12_left_13 (by decide) (n_lit (by decide)) ?_
    refine iv_X12_128 dX12_left_15 (Nat.le_of_ble_eq_true rfl) (MtX_mono (h2.2 c4) (fun r m5 hq => ?_))
    obtain ⟨x7, rfl, h6⟩ := hq
    refine ⟨x7, rfl, ?_⟩
    refine a_if_eq (tgt := 42) dX12_left_18 (by decide) ⟨fun c8 => ?_, fun c8 => ?_⟩
    · refine a_iconst (k := (-1)) dX12_left_42 (n_lit (by decide)) ?_
      exact a_iret dX12_left_43 (h6.1 c8)
    · refine a_iload_n dX12_left_21 rfl rfl ?_
      refine a_iconst (k := 0) dX12_left_22 (n_lit (by decide)) ?_
      refine a_iconst (k := 1) dX12_left_23 (n_lit (by decide)) ?_
      refine iv_X12_128 dX12_left_24 (Nat.le_of_ble_eq_true rfl) (MtX_mono (h6.2 c8) (fun r m9 hq => ?_))
      obtain ⟨x11, rfl, h10⟩ := hq
      refine ⟨x11, rfl, ?_⟩
      refine a_if_eq (tgt := 42) dX12_left_27 (by decide) ⟨fun c12 => ?_, fun c12 => ?_⟩
      · refine a_iconst (k := (-1)) dX12_left_42 (n_lit (by decide)) ?_
        exact a_iret dX12_left_43 (h10.1 c12)
      · refine a_aload_n dX12_left_30 rfl rfl ?_
        refine a_iload_n dX12_left_31 rfl rfl ?_
        refine a_iload_n dX12_left_32 rfl rfl ?_
        refine a_iconst (k := 0) dX12_left_33 (n_lit (by decide)) ?_
        refine a_iload_n dX12_left_34 rfl rfl ?_
        refine a_iconst (k := 0) dX12_left_35 (n_lit (by decide)) ?_
        refine iv_X12_390 dX12_left_36 (Nat.le_of_ble_eq_true rfl) (MtX_mono (h10.2 c12) (fun r m13 hq => ?_))
        obtain ⟨x15, rfl, h14⟩ := hq
        refine ⟨x15, rfl, ?_⟩
        refine a_goto (tgt := 43) dX12_left_39 (by decide) ?_
        exact a_iret dX12_left_43 h14
set_option maxRecDepth 10000 in
theorem sg_X12_third_0 {d : Nat} {sx : Option (List Int)} (a1 : Int) (a2 : Int) (a3 : Int) (a4 : Int) (mem : AMem) (Q : Option AV → AMem → Prop) (h : MtX yX12_in cX12_in 3 (some .boolean) d [vi a1, vi 0, vi 20] mem (fun r m1 => ∃ x3 : Int, r = some (vi x3) ∧ ((x3 = (0 : Int) → (Q (some (vi (-1))) m1)) ∧ (¬ x3 = (0 : Int) → (MtX yX12_in cX12_in 3 (some .boolean) d [vi a2, vi (-30), vi 30] m1 (fun r m5 => ∃ x7 : Int, r = some (vi x7) ∧ ((x7 = (0 : Int) → (Q (some (vi (-1))) m5)) ∧ (¬ x7 = (0 : Int) → (MtX yX12_in cX12_in 3 (some .boolean) d [vi a3, vi 0, vi 2] m5 (fun r m9 => ∃ x11 : Int, r = some (vi x11) ∧ ((x11 = (0 : Int) → (Q (some (vi (-1))) m9)) ∧ (¬ x11 = (0 : Int) → (MtX yX12_in cX12_in 3 (some .boolean) d [vi a4, vi 0, vi 1] m9 (fun r m13 => ∃ x15 : Int, r = some (vi x15) ∧ ((x15 = (0 : Int) → (Q (some (vi (-1))) m13)) ∧ (¬ x15 = (0 : Int) → (MtX yX12_oddsOf cX12_oddsOf 7 (some .int) d [vr 12 0, vi a1, vi a2, vi a3, vi a4, vi 1] m13 (fun r m17 => ∃ x19 : Int, r = some (vi x19) ∧ (Q (some (vi x19)) m17))))))))))))))))))) : Y cX12_third 5 RX12 (d + 1) sx 0 [some (vr 12 0), some (vi a1), some (vi a2), some (vi a3), some (vi a4)] [] mem Q := by
  refine a_iload_n dX12_third_0 rfl rfl ?_
  refine a_iconst (k := 0) dX12_third_1 (n_lit (by decide)) ?_
  refine a_bipush (k := 20) dX12_third_2 (by decide) (n_lit (by decide)) ?_
  refine iv_X12_128 dX12_third_4 (Nat.le_of_ble_eq_true rfl) (MtX_mono h (fun r m1 hq => ?_))
  obtain ⟨x3, rfl, h2⟩ := hq
  refine ⟨x3, rfl, ?_⟩
  refine a_if_eq (tgt := 53) dX12_third_7 (by decide) ⟨fun c4 => ?_, fun c4 => ?_⟩
  · refine a_iconst (k := (-1)) dX12_third_53 (n_lit (by decide)) ?_
    exact a_iret dX12_third_54 (h2.1 c4)
  · refine a_iload_n dX12_third_10 rfl rfl ?_
    refine a_bipush (k := (-30)) dX12_third_11 (by decide) (n_lit (by decide)) ?_
    refine a_bipush (k := 30) dX12_third_13 (by decide) (n_lit (by decide)) ?_
    refine iv_X12_128 dX12_third_15 (Nat.le_of_ble_eq_true rfl) (MtX_mono (h2.2 c4) (fun r m5 hq => ?_))
    obtain ⟨x7, rfl, h6⟩ := hq
    refine ⟨x7, rfl, ?_⟩
    refine a_if_eq (tgt := 53) dX12_third_18 (by decide) ⟨fun c8 => ?_, fun c8 => ?_⟩
    · refine a_iconst (k := (-1)) dX12_third_53 (n_lit (by decide)) ?_
      exact a_iret dX12_third_54 (h6.1 c8)
    · refine a_iload_n dX12_third_21 rfl rfl ?_
      refine a_iconst (k := 0) dX12_third_22 (n_lit (by decide)) ?_
      refine a_iconst (k := 2) dX12_third_23 (n_lit (by decide)) ?_
      refine iv_X12_128 dX12_third_24 (Nat.le_of_ble_eq_true rfl) (MtX_mono (h6.2 c8) (fun r m9 hq => ?_))
      obtain ⟨x11, rfl, h10⟩ := hq
      refine ⟨x11, rfl, ?_⟩
      refine a_if_eq (tgt := 53) dX12_third_27 (by decide) ⟨fun c12 => ?_, fun c12 => ?_⟩
      · refine a_iconst (k := (-1)) dX12_third_53 (n_lit (by decide)) ?_
        exact a_iret dX12_third_54 (h10.1 c12)
      · refine a_iload dX12_third_30 rfl ?_
        refine a_iconst (k := 0) dX12_third_32 (n_lit (by decide)) ?_
        refine a_iconst (k := 1) dX12_third_33 (n_lit (by decide)) ?_
        refine iv_X12_128 dX12_third_34 (Nat.le_of_ble_eq_true rfl) (MtX_mono (h10.2 c12) (fun r m13 hq => ?_))
        obtain ⟨x15, rfl, h14⟩ := hq
        refine ⟨x15, rfl, ?_⟩
        refine a_if_eq (tgt := 53) dX12_third_37 (by decide) ⟨fun c16 => ?_, fun c16 => ?_⟩
        · refine a_iconst (k := (-1)) dX12_third_53 (n_lit (by decide)) ?_
          exact a_iret dX12_third_54 (h14.1 c16)
        · refine a_aload_n dX12_third_40 rfl rfl ?_
          refine a_iload_n dX12_third_41 rfl rfl ?_
          refine a_iload_n dX12_third_42 rfl rfl ?_
          refine a_iload_n dX12_third_43 rfl rfl ?_
          refine a_iload dX12_third_44 rfl ?_
          refine a_iconst (k := 1) dX12_third_46 (n_lit (by decide)) ?_
          refine iv_X12_390 dX12_third_47 (Nat.le_of_ble_eq_true rfl) (MtX_mono (h14.2 c16) (fun r m17 hq => ?_))
          obtain ⟨x19, rfl, h18⟩ := hq
          refine ⟨x19, rfl, ?_⟩
          refine a_goto (tgt := 54) dX12_third_50 (by decide) ?_
          exact a_iret dX12_third_54 h18
