set_option maxRecDepth 10000 in
theorem sg_X11_defender_0 {d : Nat} {sx : Option (List Int)} (a1 : Int) (a2 : Int) (mem : AMem) (Q : Option AV → AMem → Prop) (h : MtX yX11_isCell cX11_isCell 2 (some .boolean) d [vi a1, vi 1] mem (fun r m1 => ∃ x3 : Int, r = some (vi x3) ∧ ((x3 = (0 : Int) → (Q (some (vi (-1))) m1)) ∧ (¬ x3 = (0 : Int) → ((a2 < (0 : Int) → (Q (some (vi (-1))) m1)) ∧ (¬ a2 < (0 : Int) → ((0 ≤ (2 : Int) ∧ (2 : Int) < ((romL 2000).length : Int)) ∧ ((a2 ≤ (List.getD (romL 2000) (Int.toNat 2) 0) → (MtX yX2_isFull cX2_isFull 1 (some .boolean) d [vr 2 0] m1 (fun r m7 => ∃ x9 : Int, r = some (vi x9) ∧ ((x9 = (0 : Int) → (MtX yX2_add cX2_add 5 (some .int) d [vr 2 0, vi (Int.tmod a1 10), vi (w32 (Int.tdiv a1 10)), vi a2] m7 (fun r m11 => ∃ x13 : Int, r = some (vi x13) ∧ (Q (some (vi x13)) m11)))) ∧ (¬ x9 = (0 : Int) → (Q (some (vi (-3))) m7)))))) ∧ (¬ a2 ≤ (List.getD (romL 2000) (Int.toNat 2) 0) → (Q (some (vi (-1))) m1)))))))))) : Y cX11_defender 3 RX11 (d + 1) sx 0 [some (vr 11 0), some (vi a1), some (vi a2)] [] mem Q := by
  refine a_iload_n dX11_defender_0 rfl rfl ?_
  refine a_iconst (k := 1) dX11_defender_1 (n_lit (by decide)) ?_
  refine iv_X11_79 dX11_defender_2 (Nat.le_of_ble_eq_true rfl) (MtX_mono h (fun r m1 hq => ?_))
  obtain ⟨x3, rfl, h2⟩ := hq
  refine ⟨x3, rfl, ?_⟩
  refine a_if_eq (tgt := 21) dX11_defender_5 (by decide) ⟨fun c4 => ?_, fun c4 => ?_⟩
  · refine a_iconst (k := (-1)) dX11_defender_21 (n_lit (by decide)) ?_
    exact a_iret dX11_defender_22 (h2.1 c4)
  · refine a_iload_n dX11_defender_8 rfl rfl ?_
    refine a_if_lt (tgt := 21) dX11_defender_9 (by decide) ⟨fun c5 => ?_, fun c5 => ?_⟩
    · refine a_iconst (k := (-1)) dX11_defender_21 (n_lit (by decide)) ?_
      exact a_iret dX11_defender_22 ((h2.2 c4).1 c5)
    · refine a_iload_n dX11_defender_12 rfl rfl ?_
      refine a_gets (k := 2000) (fun hR => hR.2.1.1) fl_X11_83 (by decide) dX11_defender_13 ?_
      refine a_iconst (k := 2) dX11_defender_16 (n_lit (by decide)) ?_
      refine a_rom (by decide) dX11_defender_17 ⟨((h2.2 c4).2 c5).1, ?_⟩
      refine a_icmp_le (tgt := 23) dX11_defender_18 (by decide) ⟨fun c6 => ?_, fun c6 => ?_⟩
      · refine a_aload_n dX11_defender_23 rfl rfl ?_
        refine gf_X11_10 dX11_defender_24 ?_
        refine iv_X11_87 dX11_defender_27 (Nat.le_of_ble_eq_true rfl) (MtX_mono (((h2.2 c4).2 c5).2.1 c6) (fun r m7 hq => ?_))
        obtain ⟨x9, rfl, h8⟩ := hq
        refine ⟨x9, rfl, ?_⟩
        refine a_if_eq (tgt := 38) dX11_defender_30 (by decide) ⟨fun c10 => ?_, fun c10 => ?_⟩
        · refine a_aload_n dX11_defender_38 rfl rfl ?_
          refine gf_X11_10 dX11_defender_39 ?_
          refine a_iload_n dX11_defender_42 rfl rfl ?_
          refine a_bipush (k := 10) dX11_defender_43 (by decide) (n_lit (by decide)) ?_
          refine a_irem dX11_defender_45 (by decide) ?_
          refine a_iload_n dX11_defender_46 rfl rfl ?_
          refine a_bipush (k := 10) dX11_defender_47 (by decide) (n_lit (by decide)) ?_
          refine a_idiv dX11_defender_49 (by decide) ?_
          refine a_iload_n dX11_defender_50 rfl rfl ?_
          refine iv_X11_91 dX11_defender_51 (Nat.le_of_ble_eq_true rfl) (MtX_mono (h8.1 c10) (fun r m11 hq => ?_))
          obtain ⟨x13, rfl, h12⟩ := hq
          refine ⟨x13, rfl, ?_⟩
          exact a_iret dX11_defender_54 h12
        · refine a_bipush (k := (-3)) dX11_defender_33 (by decide) (n_lit (by decide)) ?_
          refine a_goto (tgt := 54) dX11_defender_35 (by decide) ?_
          exact a_iret dX11_defender_54 (h8.2 c10)
      · refine a_iconst (k := (-1)) dX11_defender_21 (n_lit (by decide)) ?_
        exact a_iret dX11_defender_22 (((h2.2 c4).2 c5).2.2 c6)
set_option maxRecDepth 10000 in
theorem sg_X11_defenders_0 {d : Nat} {sx : Option (List Int)} (a1 : Int) (a2 : Int) (a3 : Int) (mem : AMem) (Q : Option AV → AMem → Prop) (h : MtX yX11_noSuchShelf cX11_noSuchShelf 1 (some .boolean) d [vi a1] mem (fun r m1 => ∃ x3 : Int, r = some (vi x3) ∧ ((x3 ≠ (0 : Int) → (Q (some (vi (-1))) m1)) ∧ (x3 = (0 : Int) → ((a3 < (1 : Int) → (Q (some (vi (-1))) m1)) ∧ (¬ a3 < (1 : Int) → ((a3 ≤ (7 : Int) → ((0 ≤ a1 ∧ a1 < 6) ∧ (MtX yX10_isEmpty cX10_isEmpty 1 (some .boolean) d [vr 10 (Int.toNat a1)] m1 (fun r m7 => ∃ x9 : Int, r = some (vi x9) ∧ ((x9 = (0 : Int) → (MtX yX10_holdsBytes cX10_holdsBytes 1 (some .boolean) d [vr 10 (Int.toNat a1)] m7 (fun r m11 => ∃ x13 : Int, r = some (vi x13) ∧ ((x13 = (0 : Int) → (Q (some (vi (-12))) m11)) ∧ (¬ x13 = (0 : Int) → (MtX yX11_addFrom cX11_addFrom 12 (some .int) d [vr 11 0, vr 10 (Int.toNat a1), vi a2, vi a3] m11 (fun r m15 => ∃ x17 : Int, r = some (vi x17) ∧ (Q (some (vi x17)) m15)))))))) ∧ (¬ x9 = (0 : Int) → (Q (some (vi 0)) m7))))))) ∧ (¬ a3 ≤ (7 : Int) → (Q (some (vi (-1))) m1))))))))) : Y cX11_defenders 5 RX11 (d + 1) sx 0 [some (vr 11 0), some (vi a1), some (vi a2), some (vi a3), none] [] mem Q := by
  refine a_iload_n dX11_defenders_0 rfl rfl ?_
  refine iv_X11_95 dX11_defenders_1 (Nat.le_of_ble_eq_true rfl) (MtX_mono h (fun r m1 hq => ?_))
  obtain ⟨x3, rfl, h2⟩ := hq
  refine ⟨x3, rfl, ?_⟩
  refine a_if_ne (tgt := 18) dX11_defenders_4 (by decide) ⟨fun c4 => ?_, fun c4 => ?_⟩
  · refine a_iconst (k := (-1)) dX11_defenders_18 (n_lit (by decide)) ?_
    exact a_iret dX11_defenders_19 (h2.1 c4)
  · refine a_iload_n dX11_defenders_7 rfl rfl ?_
    refine a_iconst (k := 1) dX11_defenders_8 (n_lit (by decide)) ?_
    refine a_icmp_lt (tgt := 18) dX11_defenders_9 (by decide) ⟨fun c5 => ?_, fun c5 => ?_⟩
    · refine a_iconst (k := (-1)) dX11_defenders_18 (n_lit (by decide)) ?_
      exact a_iret dX11_defenders_19 ((h2.2 c4).1 c5)
    · refine a_iload_n dX11_defenders_12 rfl rfl ?_
      refine a_bipush (k := 7) dX11_defenders_13 (by decide) (n_lit (by decide)) ?_
      refine a_icmp_le (tgt := 20) dX11_defenders_15 (by decide) ⟨fun c6 => ?_, fun c6 => ?_⟩
      · refine a_aload_n dX11_defenders_20 rfl rfl ?_
        refine gf_X11_67 dX11_defenders_21 ?_
        refine a_iload_n dX11_defenders_24 rfl rfl ?_
        refine a_shelves dX11_defenders_25 ⟨(((h2.2 c4).2 c5).1 c6).1, ?_⟩
        refine a_astore dX11_defenders_26 (by decide) rfl ?_
        refine a_aload dX11_defenders_28 rfl ?_
        refine iv_X11_99 dX11_defenders_30 (Nat.le_of_ble_eq_true rfl) (MtX_mono (((h2.2 c4).2 c5).1 c6).2 (fun r m7 hq => ?_))
        obtain ⟨x9, rfl, h8⟩ := hq
        refine ⟨x9, rfl, ?_⟩
        refine a_if_eq (tgt := 38) dX11_defenders_33 (by decide) ⟨fun c10 => ?_, fun c10 => ?_⟩
        · refine a_aload dX11_defenders_38 rfl ?_
          refine iv_X11_102 dX11_defenders_40 (Nat.le_of_ble_eq_true rfl) (MtX_mono (h8.1 c10) (fun r m11 hq => ?_))
          obtain ⟨x13, rfl, h12⟩ := hq
          refine ⟨x13, rfl, ?_⟩
          refine a_if_eq (tgt := 57) dX11_defenders_43 (by decide) ⟨fun c14 => ?_, fun c14 => ?_⟩
          · refine a_bipush (k := (-12)) dX11_defenders_57 (by decide) (n_lit (by decide)) ?_
            exact a_iret dX11_defenders_59 (h12.1 c14)
          · refine a_aload_n dX11_defenders_46 rfl rfl ?_
            refine a_aload dX11_defenders_47 rfl ?_
            refine a_iload_n dX11_defenders_49 rfl rfl ?_
            refine a_iload_n dX11_defenders_50 rfl rfl ?_
            refine iv_X11_105 dX11_defenders_51 (Nat.le_of_ble_eq_true rfl) (MtX_mono (h12.2 c14) (fun r m15 hq => ?_))
            obtain ⟨x17, rfl, h16⟩ := hq
            refine ⟨x17, rfl, ?_⟩
            refine a_goto (tgt := 59) dX11_defenders_54 (by decide) ?_
            exact a_iret dX11_defenders_59 h16
        · refine a_iconst (k := 0) dX11_defenders_36 (n_lit (by decide)) ?_
          exact a_iret dX11_defenders_37 (h8.2 c10)
      · refine a_iconst (k := (-1)) dX11_defenders_18 (n_lit (by decide)) ?_
        exact a_iret dX11_defenders_19 (((h2.2 c4).2 c5).2 c6)
set_option maxRecDepth 10000 in
theorem sg_X11_mend_0 {d : Nat} {sx : Option (List Int)} (a1 : Int) (a2 : Int) (a3 : Int) (mem : AMem) (Q : Option AV → AMem → Prop) (h : MtX yX2_knows cX2_knows 3 (some .boolean) d [vr 2 0, vi a1, vi a2] mem (fun r m1 => ∃ x3 : Int, r = some (vi x3) ∧ ((x3 = (0 : Int) → (Q (some (vi (-1))) m1)) ∧ (¬ x3 = (0 : Int) → ((0 ≤ a2 ∧ a2 < ((romL 2001).length : Int)) ∧ ((a3 < (List.getD (romL 2001) (Int.toNat a2) 0) → (Q (some (vi (-1))) m1)) ∧ (¬ a3 < (List.getD (romL 2001) (Int.toNat a2) 0) → ((0 ≤ a2 ∧ a2 < ((romL 2000).length : Int)) ∧ ((a3 ≤ (List.getD (romL 2000) (Int.toNat a2) 0) → (MtX yX2_tell cX2_tell 3 (some .int) d [vr 2 0, vi a1, vi a2] m1 (fun r m7 => ∃ x9 : Int, r = some (vi x9) ∧ ((x9 = a3 → (Q (some (vi x9)) m7)) ∧ (¬ x9 = a3 → (MtX yX2_change cX2_change 4 none d [vr 2 0, vi a1, vi a2, vi a3] m7 (fun r m11 => r = none ∧ (MtX yX1_note cX1_note 5 none d [vr 1 0, vi a1, vi a2, vi x9, vi a3] m11 (fun r m13 => r = none ∧ (Q (some (vi x9)) m13)))))))))) ∧ (¬ a3 ≤ (List.getD (romL 2000) (Int.toNat a2) 0) → (Q (some (vi (-1))) m1))))))))))) : Y cX11_mend 5 RX11 (d + 1) sx 0 [some (vr 11 0), some (vi a1), some (vi a2), some (vi a3), none] [] mem Q := by
  refine a_aload_n dX11_mend_0 rfl rfl ?_
  refine gf_X11_10 dX11_mend_1 ?_
  refine a_iload_n dX11_mend_4 rfl rfl ?_
  refine a_iload_n dX11_mend_5 rfl rfl ?_
  refine iv_X11_109 dX11_mend_6 (Nat.le_of_ble_eq_true rfl) (MtX_mono h (fun r m1 hq => ?_))
  obtain ⟨x3, rfl, h2⟩ := hq
  refine ⟨x3, rfl, ?_⟩
  refine a_if_eq (tgt := 30) dX11_mend_9 (by decide) ⟨fun c4 => ?_, fun c4 => ?_⟩
  · refine a_iconst (k := (-1)) dX11_mend_30 (n_lit (by decide)) ?_
    exact a_iret dX11_mend_31 (h2.1 c4)
  · refine a_iload_n dX11_mend_12 rfl rfl ?_
    refine a_gets (k := 2001) (fun hR => hR.2.1.2.1) fl_X11_112 (by decide) dX11_mend_13 ?_
    refine a_iload_n dX11_mend_16 rfl rfl ?_
    refine a_rom (by decide) dX11_mend_17 ⟨(h2.2 c4).1, ?_⟩
    refine a_icmp_lt (tgt := 30) dX11_mend_18 (by decide) ⟨fun c5 => ?_, fun c5 => ?_⟩
    · refine a_iconst (k := (-1)) dX11_mend_30 (n_lit (by decide)) ?_
      exact a_iret dX11_mend_31 ((h2.2 c4).2.1 c5)
    · refine a_iload_n dX11_mend_21 rfl rfl ?_
      refine a_gets (k := 2000) (fun hR => hR.2.1.1) fl_X11_83 (by decide) dX11_mend_22 ?_
      refine a_iload_n dX11_mend_25 rfl rfl ?_
      refine a_rom (by decide) dX11_mend_26 ⟨((h2.2 c4).2.2 c5).1, ?_⟩
      refine a_icmp_le (tgt := 32) dX11_mend_27 (by decide) ⟨fun c6 => ?_, fun c6 => ?_⟩
      · refine a_aload_n dX11_mend_32 rfl rfl ?_
        refine gf_X11_10 dX11_mend_33 ?_
        refine a_iload_n dX11_mend_36 rfl rfl ?_
        refine a_iload_n dX11_mend_37 rfl rfl ?_
        refine iv_X11_115 dX11_mend_38 (Nat.le_of_ble_eq_true rfl) (MtX_mono (((h2.2 c4).2.2 c5).2.1 c6) (fun r m7 hq => ?_))
        obtain ⟨x9, rfl, h8⟩ := hq
        refine ⟨x9, rfl, ?_⟩
        refine a_istore dX11_mend_41 (by decide) rfl ?_
        refine a_iload dX11_mend_43 rfl ?_
        refine a_iload_n dX11_mend_45 rfl rfl ?_
        refine a_icmp_eq (tgt := 71) dX11_mend_46 (by decide) ⟨fun c10 => ?_, fun c10 => ?_⟩
        · refine a_iload dX11_mend_71 rfl ?_
          exact a_iret dX11_mend_73 (h8.1 c10)
        · refine a_aload_n dX11_mend_49 rfl rfl ?_
          refine gf_X11_10 dX11_mend_50 ?_
          refine a_iload_n dX11_mend_53 rfl rfl ?_
          refine a_iload_n dX11_mend_54 rfl rfl ?_
          refine a_iload_n dX11_mend_55 rfl rfl ?_
          refine iv_X11_119 dX11_mend_56 (Nat.le_of_ble_eq_true rfl) (MtX_mono (h8.2 c10) (fun r m11 hq => ?_))
          obtain ⟨rfl, h12⟩ := hq
          refine ⟨rfl, ?_⟩
          refine a_aload_n dX11_mend_59 rfl rfl ?_
          refine gf_X11_54 dX11_mend_60 ?_
          refine a_iload_n dX11_mend_63 rfl rfl ?_
          refine a_iload_n dX11_mend_64 rfl rfl ?_
          refine a_iload dX11_mend_65 rfl ?_
          refine a_iload_n dX11_mend_67 rfl rfl ?_
          refine iv_X11_123 dX11_mend_68 (Nat.le_of_ble_eq_true rfl) (MtX_mono h12 (fun r m13 hq => ?_))
          obtain ⟨rfl, h14⟩ := hq
          refine ⟨rfl, ?_⟩
          refine a_iload dX11_mend_71 rfl ?_
          exact a_iret dX11_mend_73 h14
      · refine a_iconst (k := (-1)) dX11_mend_30 (n_lit (by decide)) ?_
        exact a_iret dX11_mend_31 (((h2.2 c4).2.2 c5).2.2 c6)
set_option maxRecDepth 10000 in
theorem sg_X11_of_0 {d : Nat} {sx : Option (List Int)} (a1 : Int) (a2 : Int) (mem : AMem) (Q : Option AV → AMem → Prop) (h : MtX yX2_knows cX2_knows 3 (some .boolean) d [vr 2 0, vi a1, vi a2] mem (fun r m1 => ∃ x3 : Int, r = some (vi x3) ∧ ((x3 = (0 : Int) → (Q (some (vi (-1))) m1)) ∧ (¬ x3 = (0 : Int) → (MtX yX2_tell cX2_tell 3 (some .int) d [vr 2 0, vi a1, vi a2] m1 (fun r m5 => ∃ x7 : Int, r = some (vi x7) ∧ (Q (some (vi x7)) m5))))))) : Y cX11_of 3 RX11 (d + 1) sx 0 [some (vr 11 0), some (vi a1), some (vi a2)] [] mem Q := by
  refine a_aload_n dX11_of_0 rfl rfl ?_
  refine gf_X11_10 dX11_of_1 ?_
  refine a_iload_n dX11_of_4 rfl rfl ?_
  refine a_iload_n dX11_of_5 rfl rfl ?_
  refine iv_X11_109 dX11_of_6 (Nat.le_of_ble_eq_true rfl) (MtX_mono h (fun r m1 hq => ?_))
  obtain ⟨x3, rfl, h2⟩ := hq
  refine ⟨x3, rfl, ?_⟩
  refine a_if_eq (tgt := 24) dX11_of_9 (by decide) ⟨fun c4 => ?_, fun c4 => ?_⟩
  · refine a_iconst (k := (-1)) dX11_of_24 (n_lit (by decide)) ?_
    exact a_iret dX11_of_25 (h2.1 c4)
  · refine a_aload_n dX11_of_12 rfl rfl ?_
    refine gf_X11_10 dX11_of_13 ?_
    refine a_iload_n dX11_of_16 rfl rfl ?_
    refine a_iload_n dX11_of_17 rfl rfl ?_
    refine iv_X11_115 dX11_of_18 (Nat.le_of_ble_eq_true rfl) (MtX_mono (h2.2 c4) (fun r m5 hq => ?_))
    obtain ⟨x7, rfl, h6⟩ := hq
    refine ⟨x7, rfl, ?_⟩
    refine a_goto (tgt := 25) dX11_of_21 (by decide) ?_
    exact a_iret dX11_of_25 h6
set_option maxRecDepth 10000 in
theorem sg_X11_feed_0 {d : Nat} {sx : Option (List Int)} (a1 : Int) (mem : AMem) (Q : Option AV → AMem → Prop) (h : (a1 < (0 : Int) → (Q (some (vi (-1))) mem)) ∧ (¬ a1 < (0 : Int) → ((a1 ≤ (255 : Int) → (MtX yX4_isFull cX4_isFull 1 (some .boolean) d [vr 4 0] mem (fun r m3 => ∃ x5 : Int, r = some (vi x5) ∧ ((x5 = (0 : Int) → (MtX yX4_add cX4_add 2 (some .int) d [vr 4 0, vi a1] m3 (fun r m7 => ∃ x9 : Int, r = some (vi x9) ∧ (Q (some (vi x9)) m7)))) ∧ (¬ x5 = (0 : Int) → (Q (some (vi (-3))) m3)))))) ∧ (¬ a1 ≤ (255 : Int) → (Q (some (vi (-1))) mem))))) : Y cX11_feed 2 RX11 (d + 1) sx 0 [some (vr 11 0), some (vi a1)] [] mem Q := by
  refine a_iload_n dX11_feed_0 rfl rfl ?_
  refine a_if_lt (tgt := 11) dX11_feed_1 (by decide) ⟨fun c1 => ?_, fun c1 => ?_⟩
  · refine a_iconst (k := (-1)) dX11_feed_11 (n_lit (by decide)) ?_
    exact a_iret dX11_feed_12 (h.1 c1)
  · refine a_iload_n dX11_feed_4 rfl rfl ?_
    refine a_sipush (k := 255) dX11_feed_5 (by decide) (n_lit (by decide)) ?_
    refine a_icmp_le (tgt := 13) dX11_feed_8 (by decide) ⟨fun c2 => ?_, fun c2 => ?_⟩
    · refine a_aload_n dX11_feed_13 rfl rfl ?_
      refine gf_X11_74 dX11_feed_14 ?_
      refine iv_X11_127 dX11_feed_17 (Nat.le_of_ble_eq_true rfl) (MtX_mono ((h.2 c1).1 c2) (fun r m3 hq => ?_))
      obtain ⟨x5, rfl, h4⟩ := hq
      refine ⟨x5, rfl, ?_⟩
      refine a_if_eq (tgt := 28) dX11_feed_20 (by decide) ⟨fun c6 => ?_, fun c6 => ?_⟩
      · refine a_aload_n dX11_feed_28 rfl rfl ?_
        refine gf_X11_74 dX11_feed_29 ?_
        refine a_iload_n dX11_feed_32 rfl rfl ?_
        refine iv_X11_128 dX11_feed_33 (Nat.le_of_ble_eq_true rfl) (MtX_mono (h4.1 c6) (fun r m7 hq => ?_))
        obtain ⟨x9, rfl, h8⟩ := hq
        refine ⟨x9, rfl, ?_⟩
        exact a_iret dX11_feed_36 h8
      · refine a_bipush (k := (-3)) dX11_feed_23 (by decide) (n_lit (by decide)) ?_
        refine a_goto (tgt := 36) dX11_feed_25 (by decide) ?_
        exact a_iret dX11_feed_36 (h4.2 c6)
    · refine a_iconst (k := (-1)) dX11_feed_11 (n_lit (by decide)) ?_
      exact a_iret dX11_feed_12 ((h.2 c1).2 c2)
set_option maxRecDepth 10000 in
theorem sg_X11_law_0 {d : Nat} {sx : Option (List Int)}  (mem : AMem) (Q : Option AV → AMem → Prop) (h : MtX yX4_read cX4_read 2 (some .int) d [vr 4 0] mem (fun r m1 => ∃ x3 : Int, r = some (vi x3) ∧ ((x3 < (0 : Int) → (0 ≤ m1 4 0 4 ∧ (MtX yX2_follow cX2_follow 3 (some (.object "OnOneBreath$Law")) d [vr 2 0, vr 3 (Int.toNat (m1 4 0 4))] m1 (fun r m5 => ∃ x7 : Nat, r = some (vr 3 x7) ∧ (Q (some (vi 1)) (upM m5 4 0 4 ((x7 : Nat) : Int))))))) ∧ (¬ x3 < (0 : Int) → (Q (some (vi (w32 ((-100) - x3)))) m1))))) : Y cX11_law 2 RX11 (d + 1) sx 0 [some (vr 11 0), none] [] mem Q := by
  refine a_aload_n dX11_law_0 rfl rfl ?_
  refine gf_X11_74 dX11_law_1 ?_
  refine iv_X11_131 dX11_law_4 (Nat.le_of_ble_eq_true rfl) (MtX_mono h (fun r m1 hq => ?_))
  obtain ⟨x3, rfl, h2⟩ := hq
  refine ⟨x3, rfl, ?_⟩
  refine a_istore_n dX11_law_7 rfl (by decide) rfl ?_
  refine a_iload_n dX11_law_8 rfl rfl ?_
  refine a_if_lt (tgt := 17) dX11_law_9 (by decide) ⟨fun c4 => ?_, fun c4 => ?_⟩
  · refine a_aload_n dX11_law_17 rfl rfl ?_
    refine gf_X11_74 dX11_law_18 ?_
    refine a_aload_n dX11_law_21 rfl rfl ?_
    refine gf_X11_10 dX11_law_22 ?_
    refine a_aload_n dX11_law_25 rfl rfl ?_
    refine gf_X11_74 dX11_law_26 ?_
    refine gf_X11_135 (x := m1 4 0 4) rfl dX11_law_29 ⟨(h2.1 c4).1, ?_⟩
    refine iv_X11_139 dX11_law_32 (Nat.le_of_ble_eq_true rfl) (MtX_mono (h2.1 c4).2 (fun r m5 hq => ?_))
    obtain ⟨x7, rfl, h6⟩ := hq
    refine ⟨(3, x7), rfl, ?_⟩
    refine pf_X11_135 dX11_law_35 ?_
    refine a_iconst (k := 1) dX11_law_38 (n_lit (by decide)) ?_
    exact a_iret dX11_law_39 h6
  · refine a_bipush (k := (-100)) dX11_law_12 (by decide) (n_lit (by decide)) ?_
    refine a_iload_n dX11_law_14 rfl rfl ?_
    refine a_isub dX11_law_15 ?_
    exact a_iret dX11_law_16 (h2.2 c4)
set_option maxRecDepth 10000 in
theorem sg_X11_does_0 {d : Nat} {sx : Option (List Int)} (a1 : Int) (a2 : Int) (a3 : Int) (mem : AMem) (Q : Option AV → AMem → Prop) (h : MtX yX2_isInside cX2_isInside 2 (some .boolean) d [vr 2 0, vi a1] mem (fun r m1 => ∃ x3 : Int, r = some (vi x3) ∧ ((x3 = (0 : Int) → (Q (some (vi (-1))) m1)) ∧ (¬ x3 = (0 : Int) → (MtX yX11_isCell cX11_isCell 2 (some .boolean) d [vi a2, vi 0] m1 (fun r m5 => ∃ x7 : Int, r = some (vi x7) ∧ ((x7 = (0 : Int) → (Q (some (vi (-1))) m5)) ∧ (¬ x7 = (0 : Int) → ((a3 < (0 : Int) → (Q (some (vi (-1))) m5)) ∧ (¬ a3 < (0 : Int) → ((a3 ≤ (99 : Int) → (MtX yX7_begin cX7_begin 2 none d [vr 7 0, vr 2 0] m5 (fun r m11 => r = none ∧ (MtX yX7_choice cX7_choice 5 (some .int) d [vr 7 0, vr 2 0, vi a1, vi a3] (upM (upM m11 7 0 4 (Int.tmod a2 10)) 7 0 5 (w32 (Int.tdiv a2 10))) (fun r m13 => ∃ x15 : Int, r = some (vi x15) ∧ (Q (some (vi x15)) m13)))))) ∧ (¬ a3 ≤ (99 : Int) → (Q (some (vi (-1))) m5))))))))))))) : Y cX11_does 4 RX11 (d + 1) sx 0 [some (vr 11 0), some (vi a1), some (vi a2), some (vi a3)] [] mem Q := by
  refine a_aload_n dX11_does_0 rfl rfl ?_
  refine gf_X11_10 dX11_does_1 ?_
  refine a_iload_n dX11_does_4 rfl rfl ?_
  refine iv_X11_143 dX11_does_5 (Nat.le_of_ble_eq_true rfl) (MtX_mono h (fun r m1 hq => ?_))
  obtain ⟨x3, rfl, h2⟩ := hq
  refine ⟨x3, rfl, ?_⟩
  refine a_if_eq (tgt := 29) dX11_does_8 (by decide) ⟨fun c4 => ?_, fun c4 => ?_⟩
  · refine a_iconst (k := (-1)) dX11_does_29 (n_lit (by decide)) ?_
    exact a_iret dX11_does_30 (h2.1 c4)
  · refine a_iload_n dX11_does_11 rfl rfl ?_
    refine a_iconst (k := 0) dX11_does_12 (n_lit (by decide)) ?_
    refine iv_X11_79 dX11_does_13 (Nat.le_of_ble_eq_true rfl) (MtX_mono (h2.2 c4) (fun r m5 hq => ?_))
    obtain ⟨x7, rfl, h6⟩ := hq
    refine ⟨x7, rfl, ?_⟩
    refine a_if_eq (tgt := 29) dX11_does_16 (by decide) ⟨fun c8 => ?_, fun c8 => ?_⟩
    · refine a_iconst (k := (-1)) dX11_does_29 (n_lit (by decide)) ?_
      exact a_iret dX11_does_30 (h6.1 c8)
    · refine a_iload_n dX11_does_19 rfl rfl ?_
      refine a_if_lt (tgt := 29) dX11_does_20 (by decide) ⟨fun c9 => ?_, fun c9 => ?_⟩
      · refine a_iconst (k := (-1)) dX11_does_29 (n_lit (by decide)) ?_
        exact a_iret dX11_does_30 ((h6.2 c8).1 c9)
      · refine a_iload_n dX11_does_23 rfl rfl ?_
        refine a_bipush (k := 99) dX11_does_24 (by decide) (n_lit (by decide)) ?_
        refine a_icmp_le (tgt := 31) dX11_does_26 (by decide) ⟨fun c10 => ?_, fun c10 => ?_⟩
        · refine a_aload_n dX11_does_31 rfl rfl ?_
          refine gf_X11_19 dX11_does_32 ?_
          refine a_aload_n dX11_does_35 rfl rfl ?_
          refine gf_X11_10 dX11_does_36 ?_
          refine iv_X11_146 dX11_does_39 (Nat.le_of_ble_eq_true rfl) (MtX_mono (((h6.2 c8).2 c9).1 c10) (fun r m11 hq => ?_))
          obtain ⟨rfl, h12⟩ := hq
          refine ⟨rfl, ?_⟩
          refine a_aload_n dX11_does_42 rfl rfl ?_
          refine gf_X11_19 dX11_does_43 ?_
          refine a_iload_n dX11_does_46 rfl rfl ?_
          refine a_bipush (k := 10) dX11_does_47 (by decide) (n_lit (by decide)) ?_
          refine a_irem dX11_does_49 (by decide) ?_
          refine pf_X11_150 dX11_does_50 ?_
          refine a_aload_n dX11_does_53 rfl rfl ?_
          refine gf_X11_19 dX11_does_54 ?_
          refine a_iload_n dX11_does_57 rfl rfl ?_
          refine a_bipush (k := 10) dX11_does_58 (by decide) (n_lit (by decide)) ?_
          refine a_idiv dX11_does_60 (by decide) ?_
          refine pf_X11_154 dX11_does_61 ?_
          refine a_aload_n dX11_does_64 rfl rfl ?_
          refine gf_X11_19 dX11_does_65 ?_
          refine a_aload_n dX11_does_68 rfl rfl ?_
          refine gf_X11_10 dX11_does_69 ?_
          refine a_iload_n dX11_does_72 rfl rfl ?_
          refine a_iload_n dX11_does_73 rfl rfl ?_
          refine iv_X11_157 dX11_does_74 (Nat.le_of_ble_eq_true rfl) (MtX_mono h12 (fun r m13 hq => ?_))
          obtain ⟨x15, rfl, h14⟩ := hq
          refine ⟨x15, rfl, ?_⟩
          exact a_iret dX11_does_77 h14
        · refine a_iconst (k := (-1)) dX11_does_29 (n_lit (by decide)) ?_
          exact a_iret dX11_does_30 (((h6.2 c8).2 c9).2 c10)
set_option maxRecDepth 10000 in
theorem sg_X11_raid_0 {d : Nat} {sx : Option (List Int)} (a1 : Int) (a2 : Int) (mem : AMem) (Q : Option AV → AMem → Prop) (h : (a2 < (0 : Int) → (Q (some (vi (-1))) mem)) ∧ (¬ a2 < (0 : Int) → ((a2 ≤ (6 : Int) → (MtX yX11_refusalOfBytes cX11_refusalOfBytes 2 (some .int) d [vr 11 0, vi a1] mem (fun r m3 => ∃ x5 : Int, r = some (vi x5) ∧ ((x5 = (0 : Int) → (MtX yX11_thinkThrough cX11_thinkThrough 2 none d [vr 11 0, vi a1] m3 (fun r m7 => r = none ∧ ((a2 = 0 → (Q (some (vi (m7 7 0 13))) m7)) ∧ (a2 = 1 → (Q (some (vi (m7 7 0 8))) m7)) ∧ (a2 = 2 → (MtX yX7_points cX7_points 1 (some .int) d [vr 7 0] m7 (fun r m10 => ∃ x12 : Int, r = some (vi x12) ∧ (Q (some (vi x12)) m10)))) ∧ (a2 = 3 → (MtX yX7_pointsForThem cX7_pointsForThem 2 (some .int) d [vr 7 0, vr 2 0] m7 (fun r m13 => ∃ x15 : Int, r = some (vi x15) ∧ (Q (some (vi x15)) m13)))) ∧ (a2 = 4 → (Q (some (vi (m7 7 0 10))) m7)) ∧ (a2 = 5 → (Q (some (vi (m7 7 0 9))) m7)) ∧ (¬ (0 ≤ a2 ∧ a2 ≤ 5) → (Q (some (vi (m7 7 0 11))) m7)))))) ∧ (¬ x5 = (0 : Int) → (Q (some (vi x5)) m3)))))) ∧ (¬ a2 ≤ (6 : Int) → (Q (some (vi (-1))) mem))))) : Y cX11_raid 4 RX11 (d + 1) sx 0 [some (vr 11 0), some (vi a1), some (vi a2), none] [] mem Q := by
  refine a_iload_n dX11_raid_0 rfl rfl ?_
  refine a_if_lt (tgt := 10) dX11_raid_1 (by decide) ⟨fun c1 => ?_, fun c1 => ?_⟩
  · refine a_iconst (k := (-1)) dX11_raid_10 (n_lit (by decide)) ?_
    exact a_iret dX11_raid_11 (h.1 c1)
  · refine a_iload_n dX11_raid_4 rfl rfl ?_
    refine a_bipush (k := 6) dX11_raid_5 (by decide) (n_lit (by decide)) ?_
    refine a_icmp_le (tgt := 12) dX11_raid_7 (by decide) ⟨fun c2 => ?_, fun c2 => ?_⟩
    · refine a_aload_n dX11_raid_12 rfl rfl ?_
      refine a_iload_n dX11_raid_13 rfl rfl ?_
      refine iv_X11_161 dX11_raid_14 (Nat.le_of_ble_eq_true rfl) (MtX_mono ((h.2 c1).1 c2) (fun r m3 hq => ?_))
      obtain ⟨x5, rfl, h4⟩ := hq
      refine ⟨x5, rfl, ?_⟩
      refine a_istore_n dX11_raid_17 rfl (by decide) rfl ?_
      refine a_iload_n dX11_raid_18 rfl rfl ?_
      refine a_if_eq (tgt := 24) dX11_raid_19 (by decide) ⟨fun c6 => ?_, fun c6 => ?_⟩
      · refine a_aload_n dX11_raid_24 rfl rfl ?_
        refine a_iload_n dX11_raid_25 rfl rfl ?_
        refine iv_X11_164 dX11_raid_26 (Nat.le_of_ble_eq_true rfl) (MtX_mono (h4.1 c6) (fun r m7 hq => ?_))
        obtain ⟨rfl, h8⟩ := hq
        refine ⟨rfl, ?_⟩
        refine a_iload_n dX11_raid_29 rfl rfl ?_
        refine a_table dX11_raid_30 (fun z => if z = 0 then 68 else if z = 1 then 76 else if z = 2 then 84 else if z = 3 then 92 else if z = 4 then 104 else if z = 5 then 112 else 0) 120 (by decide) (by decide) (by decide) ⟨fun e9a e9b => ?_, fun e16 => ?_⟩
        · rcases (by omega : a2 = 0 ∨ a2 = 1 ∨ a2 = 2 ∨ a2 = 3 ∨ a2 = 4 ∨ a2 = 5) with e9 | e9 | e9 | e9 | e9 | e9
          · refine Y_at (pc := 68) (by rw [e9]; rfl) ?_
            refine a_aload_n dX11_raid_68 rfl rfl ?_
            refine gf_X11_19 dX11_raid_69 ?_
            refine gf_X11_168 (x := m7 7 0 13) rfl dX11_raid_72 ?_
            exact a_iret dX11_raid_75 (h8.1 e9)
          · refine Y_at (pc := 76) (by rw [e9]; rfl) ?_
            refine a_aload_n dX11_raid_76 rfl rfl ?_
            refine gf_X11_19 dX11_raid_77 ?_
            refine gf_X11_171 (x := m7 7 0 8) rfl dX11_raid_80 ?_
            exact a_iret dX11_raid_83 (h8.2.1 e9)
          · refine Y_at (pc := 84) (by rw [e9]; rfl) ?_
            refine a_aload_n dX11_raid_84 rfl rfl ?_
            refine gf_X11_19 dX11_raid_85 ?_
            refine iv_X11_174 dX11_raid_88 (Nat.le_of_ble_eq_true rfl) (MtX_mono (h8.2.2.1 e9) (fun r m10 hq => ?_))
            obtain ⟨x12, rfl, h11⟩ := hq
            refine ⟨x12, rfl, ?_⟩
            exact a_iret dX11_raid_91 h11
          · refine Y_at (pc := 92) (by rw [e9]; rfl) ?_
            refine a_aload_n dX11_raid_92 rfl rfl ?_
            refine gf_X11_19 dX11_raid_93 ?_
            refine a_aload_n dX11_raid_96 rfl rfl ?_
            refine gf_X11_10 dX11_raid_97 ?_
            refine iv_X11_177 dX11_raid_100 (Nat.le_of_ble_eq_true rfl) (MtX_mono (h8.2.2.2.1 e9) (fun r m13 hq => ?_))
            obtain ⟨x15, rfl, h14⟩ := hq
            refine ⟨x15, rfl, ?_⟩
            exact a_iret dX11_raid_103 h14
          · refine Y_at (pc := 104) (by rw [e9]; rfl) ?_
            refine a_aload_n dX11_raid_104 rfl rfl ?_
            refine gf_X11_19 dX11_raid_105 ?_
            refine gf_X11_181 (x := m7 7 0 10) rfl dX11_raid_108 ?_
            exact a_iret dX11_raid_111 (h8.2.2.2.2.1 e9)
          · refine Y_at (pc := 112) (by rw [e9]; rfl) ?_
            refine a_aload_n dX11_raid_112 rfl rfl ?_
            refine gf_X11_19 dX11_raid_113 ?_
            refine gf_X11_184 (x := m7 7 0 9) rfl dX11_raid_116 ?_
            exact a_iret dX11_raid_119 (h8.2.2.2.2.2.1 e9)
        · refine a_aload_n dX11_raid_120 rfl rfl ?_
          refine gf_X11_19 dX11_raid_121 ?_
          refine gf_X11_187 (x := m7 7 0 11) rfl dX11_raid_124 ?_
          exact a_iret dX11_raid_127 (h8.2.2.2.2.2.2 e16)
      · refine a_iload_n dX11_raid_22 rfl rfl ?_
        exact a_iret dX11_raid_23 (h4.2 c6)
    · refine a_iconst (k := (-1)) dX11_raid_10 (n_lit (by decide)) ?_
      exact a_iret dX11_raid_11 ((h.2 c1).2 c2)
set_option maxRecDepth 10000 in
theorem sg_X11_where_0 {d : Nat} {sx : Option (List Int)} (a1 : Int) (a2 : Int) (a3 : Int) (mem : AMem) (Q : Option AV → AMem → Prop) (h : (a2 < (0 : Int) → (Q (some (vi (-1))) mem)) ∧ (¬ a2 < (0 : Int) → (((60 : Int) < a2 → (Q (some (vi (-1))) mem)) ∧ (¬ (60 : Int) < a2 → ((a3 < (-1 : Int) → (Q (some (vi (-1))) mem)) ∧ (¬ a3 < (-1 : Int) → ((a3 < (mem 2 0 5) → (MtX yX11_refusalOfBytes cX11_refusalOfBytes 2 (some .int) d [vr 11 0, vi a1] mem (fun r m5 => ∃ x7 : Int, r = some (vi x7) ∧ ((x7 = (0 : Int) → (MtX yX7_begin cX7_begin 2 none d [vr 7 0, vr 2 0] m5 (fun r m9 => r = none ∧ ((0 ≤ a1 ∧ a1 < 6) ∧ (MtX yX7_play cX7_play 4 none d [vr 7 0, vr 2 0, vr 10 (Int.toNat a1)] (upM m9 7 0 6 (min (m9 7 0 6) a2)) (fun r m11 => r = none ∧ (MtX yX7_cellOf cX7_cellOf 2 (some .int) d [vr 7 0, vi a3] m11 (fun r m13 => ∃ x15 : Int, r = some (vi x15) ∧ (Q (some (vi x15)) m13))))))))) ∧ (¬ x7 = (0 : Int) → (Q (some (vi x7)) m5)))))) ∧ (¬ a3 < (mem 2 0 5) → (Q (some (vi (-1))) mem))))))))) : Y cX11_where 5 RX11 (d + 1) sx 0 [some (vr 11 0), some (vi a1), some (vi a2), some (vi a3), none] [] mem Q := by
  refine a_iload_n dX11_where_0 rfl rfl ?_
  refine a_if_lt (tgt := 26) dX11_where_1 (by decide) ⟨fun c1 => ?_, fun c1 => ?_⟩
  · refine a_iconst (k := (-1)) dX11_where_26 (n_lit (by decide)) ?_
    exact a_iret dX11_where_27 (h.1 c1)
  · refine a_iload_n dX11_where_4 rfl rfl ?_
    refine a_bipush (k := 60) dX11_where_5 (by decide) (n_lit (by decide)) ?_
    refine a_icmp_gt (tgt := 26) dX11_where_7 (by decide) ⟨fun c2 => ?_, fun c2 => ?_⟩
    · refine a_iconst (k := (-1)) dX11_where_26 (n_lit (by decide)) ?_
      exact a_iret dX11_where_27 ((h.2 c1).1 c2)
    · refine a_iload_n dX11_where_10 rfl rfl ?_
      refine a_iconst (k := (-1)) dX11_where_11 (n_lit (by decide)) ?_
      refine a_icmp_lt (tgt := 26) dX11_where_12 (by decide) ⟨fun c3 => ?_, fun c3 => ?_⟩
      · refine a_iconst (k := (-1)) dX11_where_26 (n_lit (by decide)) ?_
        exact a_iret dX11_where_27 (((h.2 c1).2 c2).1 c3)
      · refine a_iload_n dX11_where_15 rfl rfl ?_
        refine a_aload_n dX11_where_16 rfl rfl ?_
        refine gf_X11_10 dX11_where_17 ?_
        refine gf_X11_190 (x := mem 2 0 5) rfl dX11_where_20 ?_
        refine a_icmp_lt (tgt := 28) dX11_where_23 (by decide) ⟨fun c4 => ?_, fun c4 => ?_⟩
        · refine a_aload_n dX11_where_28 rfl rfl ?_
          refine a_iload_n dX11_where_29 rfl rfl ?_
          refine iv_X11_161 dX11_where_30 (Nat.le_of_ble_eq_true rfl) (MtX_mono ((((h.2 c1).2 c2).2 c3).1 c4) (fun r m5 hq => ?_))
          obtain ⟨x7, rfl, h6⟩ := hq
          refine ⟨x7, rfl, ?_⟩
          refine a_istore dX11_where_33 (by decide) rfl ?_
          refine a_iload dX11_where_35 rfl ?_
          refine a_if_eq (tgt := 43) dX11_where_37 (by decide) ⟨fun c8 => ?_, fun c8 => ?_⟩
          · refine a_aload_n dX11_where_43 rfl rfl ?_
            refine gf_X11_19 dX11_where_44 ?_
            refine a_aload_n dX11_where_47 rfl rfl ?_
            refine gf_X11_10 dX11_where_48 ?_
            refine iv_X11_146 dX11_where_51 (Nat.le_of_ble_eq_true rfl) (MtX_mono (h6.1 c8) (fun r m9 hq => ?_))
            obtain ⟨rfl, h10⟩ := hq
            refine ⟨rfl, ?_⟩
            refine a_aload_n dX11_where_54 rfl rfl ?_
            refine gf_X11_19 dX11_where_55 ?_
            refine a_aload_n dX11_where_58 rfl rfl ?_
            refine gf_X11_19 dX11_where_59 ?_
            refine gf_X11_193 (x := m9 7 0 6) rfl dX11_where_62 ?_
            refine a_iload_n dX11_where_65 rfl rfl ?_
            refine a_min ml_X11_196 ms_Math_min mn_Math mc_Math_min (by omega) (Nat.le_of_ble_eq_true rfl) dX11_where_66 ?_
            refine pf_X11_193 dX11_where_69 ?_
            refine a_aload_n dX11_where_72 rfl rfl ?_
            refine gf_X11_19 dX11_where_73 ?_
            refine a_aload_n dX11_where_76 rfl rfl ?_
            refine gf_X11_10 dX11_where_77 ?_
            refine a_aload_n dX11_where_80 rfl rfl ?_
            refine gf_X11_67 dX11_where_81 ?_
            refine a_iload_n dX11_where_84 rfl rfl ?_
            refine a_shelves dX11_where_85 ⟨h10.1, ?_⟩
            refine iv_X11_201 dX11_where_86 (Nat.le_of_ble_eq_true rfl) (MtX_mono h10.2 (fun r m11 hq => ?_))
            obtain ⟨rfl, h12⟩ := hq
            refine ⟨rfl, ?_⟩
            refine a_aload_n dX11_where_89 rfl rfl ?_
            refine gf_X11_19 dX11_where_90 ?_
            refine a_iload_n dX11_where_93 rfl rfl ?_
            refine iv_X11_205 dX11_where_94 (Nat.le_of_ble_eq_true rfl) (MtX_mono h12 (fun r m13 hq => ?_))
            obtain ⟨x15, rfl, h14⟩ := hq
            refine ⟨x15, rfl, ?_⟩
            exact a_iret dX11_where_97 h14
          · refine a_iload dX11_where_40 rfl ?_
            exact a_iret dX11_where_42 (h6.2 c8)
        · refine a_iconst (k := (-1)) dX11_where_26 (n_lit (by decide)) ?_
          exact a_iret dX11_where_27 ((((h.2 c1).2 c2).2 c3).2 c4)
set_option maxRecDepth 10000 in
theorem sg_X11_best_0 {d : Nat} {sx : Option (List Int)} (a1 : Int) (a2 : Int) (mem : AMem) (Q : Option AV → AMem → Prop) (h : (a1 < (1 : Int) → (Q (some (vi (-2000000000))) mem)) ∧ (¬ a1 < (1 : Int) → (((5 : Int) < a1 → (Q (some (vi (-2000000000))) mem)) ∧ (¬ (5 : Int) < a1 → (((-1 : Int) ≤ a2 → ((a2 < a1 → (MtX yX8_findBest cX8_findBest 3 none d [vr 8 0, vr 2 0, vi a1] mem (fun r m5 => r = none ∧ (((0 : Int) ≤ a2 → ((0 ≤ a2 ∧ a2 < 5) ∧ (Q (some (vi (m5 902 0 a2))) m5))) ∧ (¬ (0 : Int) ≤ a2 → (Q (some (vi (m5 8 0 3))) m5)))))) ∧ (¬ a2 < a1 → (Q (some (vi (-2))) mem)))) ∧ (¬ (-1 : Int) ≤ a2 → (Q (some (vi (-2000000000))) mem))))))) : Y cX11_best 3 RX11 (d + 1) sx 0 [some (vr 11 0), some (vi a1), some (vi a2)] [] mem Q := by
  refine a_iload_n dX11_best_0 rfl rfl ?_
  refine a_iconst (k := 1) dX11_best_1 (n_lit (by decide)) ?_
  refine a_icmp_lt (tgt := 15) dX11_best_2 (by decide) ⟨fun c1 => ?_, fun c1 => ?_⟩
  · refine a_ldc (k := (-2000000000)) co_X11_208 (n_lit (by decide)) dX11_best_15 ?_
    exact a_iret dX11_best_17 (h.1 c1)
  · refine a_iload_n dX11_best_5 rfl rfl ?_
    refine a_iconst (k := 5) dX11_best_6 (n_lit (by decide)) ?_
    refine a_icmp_gt (tgt := 15) dX11_best_7 (by decide) ⟨fun c2 => ?_, fun c2 => ?_⟩
    · refine a_ldc (k := (-2000000000)) co_X11_208 (n_lit (by decide)) dX11_best_15 ?_
      exact a_iret dX11_best_17 ((h.2 c1).1 c2)
    · refine a_iload_n dX11_best_10 rfl rfl ?_
      refine a_iconst (k := (-1)) dX11_best_11 (n_lit (by decide)) ?_
      refine a_icmp_ge (tgt := 18) dX11_best_12 (by decide) ⟨fun c3 => ?_, fun c3 => ?_⟩
      · refine a_iload_n dX11_best_18 rfl rfl ?_
        refine a_iload_n dX11_best_19 rfl rfl ?_
        refine a_icmp_lt (tgt := 26) dX11_best_20 (by decide) ⟨fun c4 => ?_, fun c4 => ?_⟩
        · refine a_aload_n dX11_best_26 rfl rfl ?_
          refine gf_X11_26 dX11_best_27 ?_
          refine a_aload_n dX11_best_30 rfl rfl ?_
          refine gf_X11_10 dX11_best_31 ?_
          refine a_iload_n dX11_best_34 rfl rfl ?_
          refine iv_X11_209 dX11_best_35 (Nat.le_of_ble_eq_true rfl) (MtX_mono ((((h.2 c1).2 c2).1 c3).1 c4) (fun r m5 hq => ?_))
          obtain ⟨rfl, h6⟩ := hq
          refine ⟨rfl, ?_⟩
          refine a_iload_n dX11_best_38 rfl rfl ?_
          refine a_if_ge (tgt := 52) dX11_best_39 (by decide) ⟨fun c7 => ?_, fun c7 => ?_⟩
          · refine a_aload_n dX11_best_52 rfl rfl ?_
            refine gf_X11_26 dX11_best_53 ?_
            refine gf_X11_216 dX11_best_56 ?_
            refine a_iload_n dX11_best_59 rfl rfl ?_
            refine a_iald rfl rfl (by decide) rfl dX11_best_60 ⟨(h6.1 c7).1, ?_⟩
            exact a_iret dX11_best_61 (h6.1 c7).2
          · refine a_aload_n dX11_best_42 rfl rfl ?_
            refine gf_X11_26 dX11_best_43 ?_
            refine gf_X11_213 (x := m5 8 0 3) rfl dX11_best_46 ?_
            refine a_goto (tgt := 61) dX11_best_49 (by decide) ?_
            exact a_iret dX11_best_61 (h6.2 c7)
        · refine a_bipush (k := (-2)) dX11_best_23 (by decide) (n_lit (by decide)) ?_
          exact a_iret dX11_best_25 ((((h.2 c1).2 c2).1 c3).2 c4)
      · refine a_ldc (k := (-2000000000)) co_X11_208 (n_lit (by decide)) dX11_best_15 ?_
        exact a_iret dX11_best_17 (((h.2 c1).2 c2).2 c3)
set_option maxRecDepth 10000 in
theorem sg_X11_touch_0 {d : Nat} {sx : Option (List Int)} (a1 : Int) (a2 : Int) (mem : AMem) (Q : Option AV → AMem → Prop) (h : MtX yX2_isInside cX2_isInside 2 (some .boolean) d [vr 2 0, vi a1] mem (fun r m1 => ∃ x3 : Int, r = some (vi x3) ∧ ((x3 = (0 : Int) → (Q (some (vi (-1))) m1)) ∧ (¬ x3 = (0 : Int) → (((-1 : Int) ≤ a2 → (MtX yX8_findTouch cX8_findTouch 4 (some .int) d [vr 8 0, vr 2 0, vi a1] m1 (fun r m6 => ∃ x8 : Int, r = some (vi x8) ∧ ((x8 = (0 : Int) → (Q (some (vi (-2))) m6)) ∧ (¬ x8 = (0 : Int) → ((a2 < x8 → (((0 : Int) ≤ a2 → ((0 ≤ a2 ∧ a2 < 5) ∧ (Q (some (vi (m6 902 0 a2))) m6))) ∧ (¬ (0 : Int) ≤ a2 → (Q (some (vi x8)) m6)))) ∧ (¬ a2 < x8 → (Q (some (vi (-2))) m6)))))))) ∧ (¬ (-1 : Int) ≤ a2 → (Q (some (vi (-1))) m1))))))) : Y cX11_touch 4 RX11 (d + 1) sx 0 [some (vr 11 0), some (vi a1), some (vi a2), none] [] mem Q := by
  refine a_aload_n dX11_touch_0 rfl rfl ?_
  refine gf_X11_10 dX11_touch_1 ?_
  refine a_iload_n dX11_touch_4 rfl rfl ?_
  refine iv_X11_143 dX11_touch_5 (Nat.le_of_ble_eq_true rfl) (MtX_mono h (fun r m1 hq => ?_))
  obtain ⟨x3, rfl, h2⟩ := hq
  refine ⟨x3, rfl, ?_⟩
  refine a_if_eq (tgt := 16) dX11_touch_8 (by decide) ⟨fun c4 => ?_, fun c4 => ?_⟩
  · refine a_iconst (k := (-1)) dX11_touch_16 (n_lit (by decide)) ?_
    exact a_iret dX11_touch_17 (h2.1 c4)
  · refine a_iload_n dX11_touch_11 rfl rfl ?_
    refine a_iconst (k := (-1)) dX11_touch_12 (n_lit (by decide)) ?_
    refine a_icmp_ge (tgt := 18) dX11_touch_13 (by decide) ⟨fun c5 => ?_, fun c5 => ?_⟩
    · refine a_aload_n dX11_touch_18 rfl rfl ?_
      refine gf_X11_26 dX11_touch_19 ?_
      refine a_aload_n dX11_touch_22 rfl rfl ?_
      refine gf_X11_10 dX11_touch_23 ?_
      refine a_iload_n dX11_touch_26 rfl rfl ?_
      refine iv_X11_219 dX11_touch_27 (Nat.le_of_ble_eq_true rfl) (MtX_mono ((h2.2 c4).1 c5) (fun r m6 hq => ?_))
      obtain ⟨x8, rfl, h7⟩ := hq
      refine ⟨x8, rfl, ?_⟩
      refine a_istore_n dX11_touch_30 rfl (by decide) rfl ?_
      refine a_iload_n dX11_touch_31 rfl rfl ?_
      refine a_if_eq (tgt := 40) dX11_touch_32 (by decide) ⟨fun c9 => ?_, fun c9 => ?_⟩
      · refine a_bipush (k := (-2)) dX11_touch_40 (by decide) (n_lit (by decide)) ?_
        exact a_iret dX11_touch_42 (h7.1 c9)
      · refine a_iload_n dX11_touch_35 rfl rfl ?_
        refine a_iload_n dX11_touch_36 rfl rfl ?_
        refine a_icmp_lt (tgt := 43) dX11_touch_37 (by decide) ⟨fun c10 => ?_, fun c10 => ?_⟩
        · refine a_iload_n dX11_touch_43 rfl rfl ?_
          refine a_if_ge (tgt := 51) dX11_touch_44 (by decide) ⟨fun c11 => ?_, fun c11 => ?_⟩
          · refine a_aload_n dX11_touch_51 rfl rfl ?_
            refine gf_X11_26 dX11_touch_52 ?_
            refine gf_X11_216 dX11_touch_55 ?_
            refine a_iload_n dX11_touch_58 rfl rfl ?_
            refine a_iald rfl rfl (by decide) rfl dX11_touch_59 ⟨(((h7.2 c9).1 c10).1 c11).1, ?_⟩
            exact a_iret dX11_touch_60 (((h7.2 c9).1 c10).1 c11).2
          · refine a_iload_n dX11_touch_47 rfl rfl ?_
            refine a_goto (tgt := 60) dX11_touch_48 (by decide) ?_
            exact a_iret dX11_touch_60 (((h7.2 c9).1 c10).2 c11)
        · refine a_bipush (k := (-2)) dX11_touch_40 (by decide) (n_lit (by decide)) ?_
          exact a_iret dX11_touch_42 ((h7.2 c9).2 c10)
    · refine a_iconst (k := (-1)) dX11_touch_16 (n_lit (by decide)) ?_
      exact a_iret dX11_touch_17 ((h2.2 c4).2 c5)
set_option maxRecDepth 10000 in
theorem sg_X11_needs_0 {d : Nat} {sx : Option (List Int)} (a1 : Int) (mem : AMem) (Q : Option AV → AMem → Prop) (h : MtX yX11_refusalOfBytes cX11_refusalOfBytes 2 (some .int) d [vr 11 0, vi a1] mem (fun r m1 => ∃ x3 : Int, r = some (vi x3) ∧ ((x3 = (0 : Int) → (MtX yX7_begin cX7_begin 2 none d [vr 7 0, vr 2 0] m1 (fun r m5 => r = none ∧ ((0 ≤ a1 ∧ a1 < 6) ∧ (MtX yX7_play cX7_play 4 none d [vr 7 0, vr 2 0, vr 10 (Int.toNat a1)] (upM m5 7 0 6 60) (fun r m7 => r = none ∧ (((m7 7 0 13) ≠ (1 : Int) → (Q (some (vi (-2))) m7)) ∧ ((m7 7 0 13) = (1 : Int) → (Q (some (vi (m7 7 0 8))) m7))))))))) ∧ (¬ x3 = (0 : Int) → (Q (some (vi x3)) m1))))) : Y cX11_needs 3 RX11 (d + 1) sx 0 [some (vr 11 0), some (vi a1), none] [] mem Q := by
  refine a_aload_n dX11_needs_0 rfl rfl ?_
  refine a_iload_n dX11_needs_1 rfl rfl ?_
  refine iv_X11_161 dX11_needs_2 (Nat.le_of_ble_eq_true rfl) (MtX_mono h (fun r m1 hq => ?_))
  obtain ⟨x3, rfl, h2⟩ := hq
  refine ⟨x3, rfl, ?_⟩
  refine a_istore_n dX11_needs_5 rfl (by decide) rfl ?_
  refine a_iload_n dX11_needs_6 rfl rfl ?_
  refine a_if_eq (tgt := 12) dX11_needs_7 (by decide) ⟨fun c4 => ?_, fun c4 => ?_⟩
  · refine a_aload_n dX11_needs_12 rfl rfl ?_
    refine gf_X11_19 dX11_needs_13 ?_
    refine a_aload_n dX11_needs_16 rfl rfl ?_
    refine gf_X11_10 dX11_needs_17 ?_
    refine iv_X11_146 dX11_needs_20 (Nat.le_of_ble_eq_true rfl) (MtX_mono (h2.1 c4) (fun r m5 hq => ?_))
    obtain ⟨rfl, h6⟩ := hq
    refine ⟨rfl, ?_⟩
    refine a_aload_n dX11_needs_23 rfl rfl ?_
    refine gf_X11_19 dX11_needs_24 ?_
    refine a_bipush (k := 60) dX11_needs_27 (by decide) (n_lit (by decide)) ?_
    refine pf_X11_193 dX11_needs_29 ?_
    refine a_aload_n dX11_needs_32 rfl rfl ?_
    refine gf_X11_19 dX11_needs_33 ?_
    refine a_aload_n dX11_needs_36 rfl rfl ?_
    refine gf_X11_10 dX11_needs_37 ?_
    refine a_aload_n dX11_needs_40 rfl rfl ?_
    refine gf_X11_67 dX11_needs_41 ?_
    refine a_iload_n dX11_needs_44 rfl rfl ?_
    refine a_shelves dX11_needs_45 ⟨h6.1, ?_⟩
    refine iv_X11_201 dX11_needs_46 (Nat.le_of_ble_eq_true rfl) (MtX_mono h6.2 (fun r m7 hq => ?_))
    obtain ⟨rfl, h8⟩ := hq
    refine ⟨rfl, ?_⟩
    refine a_aload_n dX11_needs_49 rfl rfl ?_
    refine gf_X11_19 dX11_needs_50 ?_
    refine gf_X11_168 (x := m7 7 0 13) rfl dX11_needs_53 ?_
    refine a_iconst (k := 1) dX11_needs_56 (n_lit (by decide)) ?_
    refine a_icmp_ne (tgt := 70) dX11_needs_57 (by decide) ⟨fun c9 => ?_, fun c9 => ?_⟩
    · refine a_bipush (k := (-2)) dX11_needs_70 (by decide) (n_lit (by decide)) ?_
      exact a_iret dX11_needs_72 (h8.1 c9)
    · refine a_aload_n dX11_needs_60 rfl rfl ?_
      refine gf_X11_19 dX11_needs_61 ?_
      refine gf_X11_171 (x := m7 7 0 8) rfl dX11_needs_64 ?_
      refine a_goto (tgt := 72) dX11_needs_67 (by decide) ?_
      exact a_iret dX11_needs_72 (h8.2 c9)
  · refine a_iload_n dX11_needs_10 rfl rfl ?_
    exact a_iret dX11_needs_11 (h2.2 c4)
set_option maxRecDepth 10000 in
theorem sg_X11_spared_0 {d : Nat} {sx : Option (List Int)} (a1 : Int) (mem : AMem) (Q : Option AV → AMem → Prop) (h : MtX yX11_refusalOfBytes cX11_refusalOfBytes 2 (some .int) d [vr 11 0, vi a1] mem (fun r m1 => ∃ x3 : Int, r = some (vi x3) ∧ ((x3 = (0 : Int) → (MtX yX11_thinkThrough cX11_thinkThrough 2 none d [vr 11 0, vi a1] m1 (fun r m5 => r = none ∧ (((m5 7 0 13) = (2 : Int) → (Y cX11_spared 5 RX11 (d + 1) sx 35 [some (vr 11 0), some (vi a1), some (vi x3), some (vi 0), some (vi 0)] [] m5 Q)) ∧ (¬ (m5 7 0 13) = (2 : Int) → (Q (some (vi 0)) m5)))))) ∧ (¬ x3 = (0 : Int) → (Q (some (vi x3)) m1))))) : Y cX11_spared 5 RX11 (d + 1) sx 0 [some (vr 11 0), some (vi a1), none, none, none] [] mem Q := by
  refine a_aload_n dX11_spared_0 rfl rfl ?_
  refine a_iload_n dX11_spared_1 rfl rfl ?_
  refine iv_X11_161 dX11_spared_2 (Nat.le_of_ble_eq_true rfl) (MtX_mono h (fun r m1 hq => ?_))
  obtain ⟨x3, rfl, h2⟩ := hq
  refine ⟨x3, rfl, ?_⟩
  refine a_istore_n dX11_spared_5 rfl (by decide) rfl ?_
  refine a_iload_n dX11_spared_6 rfl rfl ?_
  refine a_if_eq (tgt := 12) dX11_spared_7 (by decide) ⟨fun c4 => ?_, fun c4 => ?_⟩
  · refine a_aload_n dX11_spared_12 rfl rfl ?_
    refine a_iload_n dX11_spared_13 rfl rfl ?_
    refine iv_X11_164 dX11_spared_14 (Nat.le_of_ble_eq_true rfl) (MtX_mono (h2.1 c4) (fun r m5 hq => ?_))
    obtain ⟨rfl, h6⟩ := hq
    refine ⟨rfl, ?_⟩
    refine a_aload_n dX11_spared_17 rfl rfl ?_
    refine gf_X11_19 dX11_spared_18 ?_
    refine gf_X11_168 (x := m5 7 0 13) rfl dX11_spared_21 ?_
    refine a_iconst (k := 2) dX11_spared_24 (n_lit (by decide)) ?_
    refine a_icmp_eq (tgt := 30) dX11_spared_25 (by decide) ⟨fun c7 => ?_, fun c7 => ?_⟩
    · refine a_iconst (k := 0) dX11_spared_30 (n_lit (by decide)) ?_
      refine a_istore_n dX11_spared_31 rfl (by decide) rfl ?_
      refine a_iconst (k := 0) dX11_spared_32 (n_lit (by decide)) ?_
      refine a_istore dX11_spared_33 (by decide) rfl ?_
      exact (h6.1 c7)
    · refine a_iconst (k := 0) dX11_spared_28 (n_lit (by decide)) ?_
      exact a_iret dX11_spared_29 (h6.2 c7)
  · refine a_iload_n dX11_spared_10 rfl rfl ?_
    exact a_iret dX11_spared_11 (h2.2 c4)
set_option maxRecDepth 10000 in
theorem sg_X11_spared_35 {d : Nat} {sx : Option (List Int)} (a1 : Int) (a2 : Int) (a3 : Int) (a4 : Int) (mem : AMem) (Q : Option AV → AMem → Prop) (h : ((mem 2 0 5) ≤ a4 → (Q (some (vi a3)) mem)) ∧ (¬ (mem 2 0 5) ≤ a4 → (MtX yX2_isInside cX2_isInside 2 (some .boolean) d [vr 2 0, vi a4] mem (fun r m2 => ∃ x4 : Int, r = some (vi x4) ∧ ((x4 = (0 : Int) → (Y cX11_spared 5 RX11 (d + 1) sx 35 [some (vr 11 0), some (vi a1), some (vi a2), some (vi a3), some (vi (w32 (a4 + 1)))] [] m2 Q)) ∧ (¬ x4 = (0 : Int) → (MtX yX7_begin cX7_begin 2 none d [vr 7 0, vr 2 0] m2 (fun r m6 => r = none ∧ ((0 ≤ a1 ∧ a1 < 6) ∧ (MtX yX7_play cX7_play 4 none d [vr 7 0, vr 2 0, vr 10 (Int.toNat a1)] (upM m6 7 0 3 (an32 (m6 7 0 3) (xo32 (shl32 1 a4) (-1)))) (fun r m8 => r = none ∧ (((m8 7 0 13) ≠ (2 : Int) → (Y cX11_spared 5 RX11 (d + 1) sx 35 [some (vr 11 0), some (vi a1), some (vi a2), some (vi (or_32 a3 (shl32 1 a4))), some (vi (w32 (a4 + 1)))] [] m8 Q)) ∧ ((m8 7 0 13) = (2 : Int) → (Y cX11_spared 5 RX11 (d + 1) sx 35 [some (vr 11 0), some (vi a1), some (vi a2), some (vi (or_32 a3 0)), some (vi (w32 (a4 + 1)))] [] m8 Q)))))))))))))) : Y cX11_spared 5 RX11 (d + 1) sx 35 [some (vr 11 0), some (vi a1), some (vi a2), some (vi a3), some (vi a4)] [] mem Q := by
  refine a_iload dX11_spared_35 rfl ?_
  refine a_aload_n dX11_spared_37 rfl rfl ?_
  refine gf_X11_10 dX11_spared_38 ?_
  refine gf_X11_190 (x := mem 2 0 5) rfl dX11_spared_41 ?_
  refine a_icmp_ge (tgt := 133) dX11_spared_44 (by decide) ⟨fun c1 => ?_, fun c1 => ?_⟩
  · refine a_iload_n dX11_spared_133 rfl rfl ?_
    exact a_iret dX11_spared_134 (h.1 c1)
  · refine a_aload_n dX11_spared_47 rfl rfl ?_
    refine gf_X11_10 dX11_spared_48 ?_
    refine a_iload dX11_spared_51 rfl ?_
    refine iv_X11_143 dX11_spared_53 (Nat.le_of_ble_eq_true rfl) (MtX_mono (h.2 c1) (fun r m2 hq => ?_))
    obtain ⟨x4, rfl, h3⟩ := hq
    refine ⟨x4, rfl, ?_⟩
    refine a_if_eq (tgt := 127) dX11_spared_56 (by decide) ⟨fun c5 => ?_, fun c5 => ?_⟩
    · refine a_iinc dX11_spared_127 rfl (by decide) rfl ?_
      refine a_goto (tgt := 35) dX11_spared_130 (by decide) ?_
      exact (h3.1 c5)
    · refine a_aload_n dX11_spared_59 rfl rfl ?_
      refine gf_X11_19 dX11_spared_60 ?_
      refine a_aload_n dX11_spared_63 rfl rfl ?_
      refine gf_X11_10 dX11_spared_64 ?_
      refine iv_X11_146 dX11_spared_67 (Nat.le_of_ble_eq_true rfl) (MtX_mono (h3.2 c5) (fun r m6 hq => ?_))
      obtain ⟨rfl, h7⟩ := hq
      refine ⟨rfl, ?_⟩
      refine a_aload_n dX11_spared_70 rfl rfl ?_
      refine gf_X11_19 dX11_spared_71 ?_
      refine a_dup dX11_spared_74 rfl ?_
      refine gf_X11_223 (x := m6 7 0 3) rfl dX11_spared_75 ?_
      refine a_iconst (k := 1) dX11_spared_78 (n_lit (by decide)) ?_
      refine a_iload dX11_spared_79 rfl ?_
      refine a_ishl dX11_spared_81 ?_
      refine a_iconst (k := (-1)) dX11_spared_82 (n_lit (by decide)) ?_
      refine a_ixor dX11_spared_83 ?_
      refine a_iand dX11_spared_84 ?_
      refine pf_X11_223 dX11_spared_85 ?_
      refine a_aload_n dX11_spared_88 rfl rfl ?_
      refine gf_X11_19 dX11_spared_89 ?_
      refine a_aload_n dX11_spared_92 rfl rfl ?_
      refine gf_X11_10 dX11_spared_93 ?_
      refine a_aload_n dX11_spared_96 rfl rfl ?_
      refine gf_X11_67 dX11_spared_97 ?_
      refine a_iload_n dX11_spared_100 rfl rfl ?_
      refine a_shelves dX11_spared_101 ⟨h7.1, ?_⟩
      refine iv_X11_201 dX11_spared_102 (Nat.le_of_ble_eq_true rfl) (MtX_mono h7.2 (fun r m8 hq => ?_))
      obtain ⟨rfl, h9⟩ := hq
      refine ⟨rfl, ?_⟩
      refine a_iload_n dX11_spared_105 rfl rfl ?_
      refine a_aload_n dX11_spared_106 rfl rfl ?_
      refine gf_X11_19 dX11_spared_107 ?_
      refine gf_X11_168 (x := m8 7 0 13) rfl dX11_spared_110 ?_
      refine a_iconst (k := 2) dX11_spared_113 (n_lit (by decide)) ?_
      refine a_icmp_ne (tgt := 121) dX11_spared_114 (by decide) ⟨fun c10 => ?_, fun c10 => ?_⟩
      · refine a_iconst (k := 1) dX11_spared_121 (n_lit (by decide)) ?_
        refine a_iload dX11_spared_122 rfl ?_
        refine a_ishl dX11_spared_124 ?_
        refine a_ior dX11_spared_125 ?_
        refine a_istore_n dX11_spared_126 rfl (by decide) rfl ?_
        refine a_iinc dX11_spared_127 rfl (by decide) rfl ?_
        refine a_goto (tgt := 35) dX11_spared_130 (by decide) ?_
        exact (h9.1 c10)
      · refine a_iconst (k := 0) dX11_spared_117 (n_lit (by decide)) ?_
        refine a_goto (tgt := 125) dX11_spared_118 (by decide) ?_
        refine a_ior dX11_spared_125 ?_
        refine a_istore_n dX11_spared_126 rfl (by decide) rfl ?_
        refine a_iinc dX11_spared_127 rfl (by decide) rfl ?_
        refine a_goto (tgt := 35) dX11_spared_130 (by decide) ?_
        exact (h9.2 c10)
set_option maxRecDepth 10000 in
theorem sg_X11_stand_0 {d : Nat} {sx : Option (List Int)} (a1 : Int) (a2 : Int) (a3 : Int) (mem : AMem) (Q : Option AV → AMem → Prop) (h : MtX yX11_refusalOfBytes cX11_refusalOfBytes 2 (some .int) d [vr 11 0, vi a1] mem (fun r m1 => ∃ x3 : Int, r = some (vi x3) ∧ ((x3 ≠ (0 : Int) → (Q (some (vi (-2000000000))) m1)) ∧ (x3 = (0 : Int) → (MtX yX2_isInside cX2_isInside 2 (some .boolean) d [vr 2 0, vi a2] m1 (fun r m5 => ∃ x7 : Int, r = some (vi x7) ∧ ((x7 = (0 : Int) → (Q (some (vi (-2000000000))) m5)) ∧ (¬ x7 = (0 : Int) → ((a3 < (0 : Int) → (Q (some (vi (-2000000000))) m5)) ∧ (¬ a3 < (0 : Int) → ((a3 ≤ (1 : Int) → (MtX yX2_pointsForCatch cX2_pointsForCatch 1 (some .int) d [vr 2 0] m5 (fun r m11 => ∃ x13 : Int, r = some (vi x13) ∧ (Y cX11_stand 10 RX11 (d + 1) sx 52 [some (vr 11 0), some (vi a1), some (vi a2), some (vi a3), some (vi 0), some (vi 1000), some (vi (w32 (-x13))), some (vi 1), none, none] [] m11 Q)))) ∧ (¬ a3 ≤ (1 : Int) → (Q (some (vi (-2000000000))) m5))))))))))))) : Y cX11_stand 10 RX11 (d + 1) sx 0 [some (vr 11 0), some (vi a1), some (vi a2), some (vi a3), none, none, none, none, none, none] [] mem Q := by
  refine a_aload_n dX11_stand_0 rfl rfl ?_
  refine a_iload_n dX11_stand_1 rfl rfl ?_
  refine iv_X11_161 dX11_stand_2 (Nat.le_of_ble_eq_true rfl) (MtX_mono h (fun r m1 hq => ?_))
  obtain ⟨x3, rfl, h2⟩ := hq
  refine ⟨x3, rfl, ?_⟩
  refine a_if_ne (tgt := 28) dX11_stand_5 (by decide) ⟨fun c4 => ?_, fun c4 => ?_⟩
  · refine a_ldc (k := (-2000000000)) co_X11_208 (n_lit (by decide)) dX11_stand_28 ?_
    exact a_iret dX11_stand_30 (h2.1 c4)
  · refine a_aload_n dX11_stand_8 rfl rfl ?_
    refine gf_X11_10 dX11_stand_9 ?_
    refine a_iload_n dX11_stand_12 rfl rfl ?_
    refine iv_X11_143 dX11_stand_13 (Nat.le_of_ble_eq_true rfl) (MtX_mono (h2.2 c4) (fun r m5 hq => ?_))
    obtain ⟨x7, rfl, h6⟩ := hq
    refine ⟨x7, rfl, ?_⟩
    refine a_if_eq (tgt := 28) dX11_stand_16 (by decide) ⟨fun c8 => ?_, fun c8 => ?_⟩
    · refine a_ldc (k := (-2000000000)) co_X11_208 (n_lit (by decide)) dX11_stand_28 ?_
      exact a_iret dX11_stand_30 (h6.1 c8)
    · refine a_iload_n dX11_stand_19 rfl rfl ?_
      refine a_if_lt (tgt := 28) dX11_stand_20 (by decide) ⟨fun c9 => ?_, fun c9 => ?_⟩
      · refine a_ldc (k := (-2000000000)) co_X11_208 (n_lit (by decide)) dX11_stand_28 ?_
        exact a_iret dX11_stand_30 ((h6.2 c8).1 c9)
      · refine a_iload_n dX11_stand_23 rfl rfl ?_
        refine a_iconst (k := 1) dX11_stand_24 (n_lit (by decide)) ?_
        refine a_icmp_le (tgt := 31) dX11_stand_25 (by decide) ⟨fun c10 => ?_, fun c10 => ?_⟩
        · refine a_iconst (k := 0) dX11_stand_31 (n_lit (by decide)) ?_
          refine a_istore dX11_stand_32 (by decide) rfl ?_
          refine a_sipush (k := 1000) dX11_stand_34 (by decide) (n_lit (by decide)) ?_
          refine a_istore dX11_stand_37 (by decide) rfl ?_
          refine a_aload_n dX11_stand_39 rfl rfl ?_
          refine gf_X11_10 dX11_stand_40 ?_
          refine iv_X11_226 dX11_stand_43 (Nat.le_of_ble_eq_true rfl) (MtX_mono (((h6.2 c8).2 c9).1 c10) (fun r m11 hq => ?_))
          obtain ⟨x13, rfl, h12⟩ := hq
          refine ⟨x13, rfl, ?_⟩
          refine a_ineg dX11_stand_46 ?_
          refine a_istore dX11_stand_47 (by decide) rfl ?_
          refine a_iconst (k := 1) dX11_stand_49 (n_lit (by decide)) ?_
          refine a_istore dX11_stand_50 (by decide) rfl ?_
          exact h12
        · refine a_ldc (k := (-2000000000)) co_X11_208 (n_lit (by decide)) dX11_stand_28 ?_
          exact a_iret dX11_stand_30 (((h6.2 c8).2 c9).2 c10)
set_option maxRecDepth 10000 in
theorem sg_X11_stand_52 {d : Nat} {sx : Option (List Int)} (a1 : Int) (a2 : Int) (a3 : Int) (a4 : Int) (a5 : Int) (a6 : Int) (a7 : Int) (mem : AMem) (Q : Option AV → AMem → Prop) (h : ((8 : Int) < a7 → ((a3 ≠ (0 : Int) → (Q (some (vi a5)) mem)) ∧ (a3 = (0 : Int) → (Q (some (vi a4)) mem)))) ∧ (¬ (8 : Int) < a7 → (Y cX11_stand 10 RX11 (d + 1) sx 62 [some (vr 11 0), some (vi a1), some (vi a2), some (vi a3), some (vi a4), some (vi a5), some (vi a6), some (vi a7), some (vi 0), none] [] mem Q))) : Y cX11_stand 10 RX11 (d + 1) sx 52 [some (vr 11 0), some (vi a1), some (vi a2), some (vi a3), some (vi a4), some (vi a5), some (vi a6), some (vi a7), none, none] [] mem Q := by
  refine a_iload dX11_stand_52 rfl ?_
  refine a_bipush (k := 8) dX11_stand_54 (by decide) (n_lit (by decide)) ?_
  refine a_icmp_gt (tgt := 180) dX11_stand_56 (by decide) ⟨fun c1 => ?_, fun c1 => ?_⟩
  · refine a_iload_n dX11_stand_180 rfl rfl ?_
    refine a_if_ne (tgt := 189) dX11_stand_181 (by decide) ⟨fun c2 => ?_, fun c2 => ?_⟩
    · refine a_iload dX11_stand_189 rfl ?_
      exact a_iret dX11_stand_191 ((h.1 c1).1 c2)
    · refine a_iload dX11_stand_184 rfl ?_
      refine a_goto (tgt := 191) dX11_stand_186 (by decide) ?_
      exact a_iret dX11_stand_191 ((h.1 c1).2 c2)
  · refine a_iconst (k := 0) dX11_stand_59 (n_lit (by decide)) ?_
    refine a_istore dX11_stand_60 (by decide) rfl ?_
    exact (h.2 c1)
set_option maxRecDepth 10000 in
theorem sg_X11_stand_62 {d : Nat} {sx : Option (List Int)} (a1 : Int) (a2 : Int) (a3 : Int) (a4 : Int) (a5 : Int) (a6 : Int) (a7 : Int) (a8 : Int) (mem : AMem) (Q : Option AV → AMem → Prop) (h : ((8 : Int) < a8 → (Y cX11_stand 10 RX11 (d + 1) sx 52 [some (vr 11 0), some (vi a1), some (vi a2), some (vi a3), some (vi a4), some (vi a5), some (vi a6), some (vi (w32 (a7 + 1))), some (vi a8), none] [] mem Q)) ∧ (¬ (8 : Int) < a8 → ((a5 ≤ a6 → (Y cX11_stand 10 RX11 (d + 1) sx 52 [some (vr 11 0), some (vi a1), some (vi a2), some (vi a3), some (vi a4), some (vi a5), some (vi a6), some (vi (w32 (a7 + 1))), some (vi a8), none] [] mem Q)) ∧ (¬ a5 ≤ a6 → (MtX yX7_begin cX7_begin 2 none d [vr 7 0, vr 2 0] mem (fun r m3 => r = none ∧ ((0 ≤ a2 ∧ a2 < 7) ∧ ((0 ≤ a2 ∧ a2 < 7) ∧ ((0 ≤ a1 ∧ a1 < 6) ∧ (MtX yX7_play cX7_play 4 none d [vr 7 0, vr 2 0, vr 10 (Int.toNat a1)] (upM (upM m3 800 0 a2 a8) 801 0 a2 a7) (fun r m5 => r = none ∧ (MtX yX7_points cX7_points 1 (some .int) d [vr 7 0] m5 (fun r m7 => ∃ x9 : Int, r = some (vi x9) ∧ (MtX yX7_pointsForThem cX7_pointsForThem 2 (some .int) d [vr 7 0, vr 2 0] m7 (fun r m10 => ∃ x12 : Int, r = some (vi x12) ∧ ((a5 ≤ (w32 (x9 - x12)) → (Y cX11_stand 10 RX11 (d + 1) sx 62 [some (vr 11 0), some (vi a1), some (vi a2), some (vi a3), some (vi a4), some (vi a5), some (vi a6), some (vi a7), some (vi (w32 (a8 + 1))), some (vi (w32 (x9 - x12)))] [] m10 Q)) ∧ (¬ a5 ≤ (w32 (x9 - x12)) → (Y cX11_stand 10 RX11 (d + 1) sx 62 [some (vr 11 0), some (vi a1), some (vi a2), some (vi a3), some (vi (w32 ((w32 (10 * a7)) + a8))), some (vi (w32 (x9 - x12))), some (vi a6), some (vi a7), some (vi (w32 (a8 + 1))), some (vi (w32 (x9 - x12)))] [] m10 Q)))))))))))))))))) : Y cX11_stand 10 RX11 (d + 1) sx 62 [some (vr 11 0), some (vi a1), some (vi a2), some (vi a3), some (vi a4), some (vi a5), some (vi a6), some (vi a7), some (vi a8), none] [] mem Q := by
  refine a_iload dX11_stand_62 rfl ?_
  refine a_bipush (k := 8) dX11_stand_64 (by decide) (n_lit (by decide)) ?_
  refine a_icmp_gt (tgt := 174) dX11_stand_66 (by decide) ⟨fun c1 => ?_, fun c1 => ?_⟩
  · refine a_iinc dX11_stand_174 rfl (by decide) rfl ?_
    refine a_goto (tgt := 52) dX11_stand_177 (by decide) ?_
    exact (h.1 c1)
  · refine a_iload dX11_stand_69 rfl ?_
    refine a_iload dX11_stand_71 rfl ?_
    refine a_icmp_le (tgt := 174) dX11_stand_73 (by decide) ⟨fun c2 => ?_, fun c2 => ?_⟩
    · refine a_iinc dX11_stand_174 rfl (by decide) rfl ?_
      refine a_goto (tgt := 52) dX11_stand_177 (by decide) ?_
      exact ((h.2 c1).1 c2)
    · refine a_aload_n dX11_stand_76 rfl rfl ?_
      refine gf_X11_19 dX11_stand_77 ?_
      refine a_aload_n dX11_stand_80 rfl rfl ?_
      refine gf_X11_10 dX11_stand_81 ?_
      refine iv_X11_146 dX11_stand_84 (Nat.le_of_ble_eq_true rfl) (MtX_mono ((h.2 c1).2 c2) (fun r m3 hq => ?_))
      obtain ⟨rfl, h4⟩ := hq
      refine ⟨rfl, ?_⟩
      refine a_aload_n dX11_stand_87 rfl rfl ?_
      refine gf_X11_19 dX11_stand_88 ?_
      refine gf_X11_229 dX11_stand_91 ?_
      refine a_iload_n dX11_stand_94 rfl rfl ?_
      refine a_iload dX11_stand_95 rfl ?_
      refine a_iast rfl rfl (by decide) rfl dX11_stand_97 ⟨h4.1, ?_⟩
      refine a_aload_n dX11_stand_98 rfl rfl ?_
      refine gf_X11_19 dX11_stand_99 ?_
      refine gf_X11_232 dX11_stand_102 ?_
      refine a_iload_n dX11_stand_105 rfl rfl ?_
      refine a_iload dX11_stand_106 rfl ?_
      refine a_iast rfl rfl (by decide) rfl dX11_stand_108 ⟨h4.2.1, ?_⟩
      refine a_aload_n dX11_stand_109 rfl rfl ?_
      refine gf_X11_19 dX11_stand_110 ?_
      refine a_aload_n dX11_stand_113 rfl rfl ?_
      refine gf_X11_10 dX11_stand_114 ?_
      refine a_aload_n dX11_stand_117 rfl rfl ?_
      refine gf_X11_67 dX11_stand_118 ?_
      refine a_iload_n dX11_stand_121 rfl rfl ?_
      refine a_shelves dX11_stand_122 ⟨h4.2.2.1, ?_⟩
      refine iv_X11_201 dX11_stand_123 (Nat.le_of_ble_eq_true rfl) (MtX_mono h4.2.2.2 (fun r m5 hq => ?_))
      obtain ⟨rfl, h6⟩ := hq
      refine ⟨rfl, ?_⟩
      refine a_aload_n dX11_stand_126 rfl rfl ?_
      refine gf_X11_19 dX11_stand_127 ?_
      refine iv_X11_174 dX11_stand_130 (Nat.le_of_ble_eq_true rfl) (MtX_mono h6 (fun r m7 hq => ?_))
      obtain ⟨x9, rfl, h8⟩ := hq
      refine ⟨x9, rfl, ?_⟩
      refine a_aload_n dX11_stand_133 rfl rfl ?_
      refine gf_X11_19 dX11_stand_134 ?_
      refine a_aload_n dX11_stand_137 rfl rfl ?_
      refine gf_X11_10 dX11_stand_138 ?_
      refine iv_X11_177 dX11_stand_141 (Nat.le_of_ble_eq_true rfl) (MtX_mono h8 (fun r m10 hq => ?_))
      obtain ⟨x12, rfl, h11⟩ := hq
      refine ⟨x12, rfl, ?_⟩
      refine a_isub dX11_stand_144 ?_
      refine a_istore dX11_stand_145 (by decide) rfl ?_
      refine a_iload dX11_stand_147 rfl ?_
      refine a_iload dX11_stand_149 rfl ?_
      refine a_icmp_ge (tgt := 168) dX11_stand_151 (by decide) ⟨fun c13 => ?_, fun c13 => ?_⟩
      · refine a_iinc dX11_stand_168 rfl (by decide) rfl ?_
        refine a_goto (tgt := 62) dX11_stand_171 (by decide) ?_
        exact (h11.1 c13)
      · refine a_iload dX11_stand_154 rfl ?_
        refine a_istore dX11_stand_156 (by decide) rfl ?_
        refine a_bipush (k := 10) dX11_stand_158 (by decide) (n_lit (by decide)) ?_
        refine a_iload dX11_stand_160 rfl ?_
        refine a_imul dX11_stand_162 ?_
        refine a_iload dX11_stand_163 rfl ?_
        refine a_iadd dX11_stand_165 ?_
        refine a_istore dX11_stand_166 (by decide) rfl ?_
        refine a_iinc dX11_stand_168 rfl (by decide) rfl ?_
        refine a_goto (tgt := 62) dX11_stand_171 (by decide) ?_
        exact (h11.2 c13)
set_option maxRecDepth 10000 in
theorem sg_X11_mightHe_0 {d : Nat} {sx : Option (List Int)} (a1 : Int) (mem : AMem) (Q : Option AV → AMem → Prop) (h : MtX yX11_refusalOfBytes cX11_refusalOfBytes 2 (some .int) d [vr 11 0, vi a1] mem (fun r m1 => ∃ x3 : Int, r = some (vi x3) ∧ ((x3 = (0 : Int) → (MtX yX7_begin cX7_begin 2 none d [vr 7 0, vr 2 0] m1 (fun r m5 => r = none ∧ ((0 ≤ a1 ∧ a1 < 6) ∧ (MtX yX7_play cX7_play 4 none d [vr 7 0, vr 2 0, vr 10 (Int.toNat a1)] (upM m5 7 0 7 1000) (fun r m7 => r = none ∧ (((m7 7 0 12) ≤ (40 : Int) → (Q (some (vi (m7 7 0 12))) m7)) ∧ (¬ (m7 7 0 12) ≤ (40 : Int) → (Q (some (vi (-2))) m7))))))))) ∧ (¬ x3 = (0 : Int) → (Q (some (vi x3)) m1))))) : Y cX11_mightHe 3 RX11 (d + 1) sx 0 [some (vr 11 0), some (vi a1), none] [] mem Q := by
  refine a_aload_n dX11_mightHe_0 rfl rfl ?_
  refine a_iload_n dX11_mightHe_1 rfl rfl ?_
  refine iv_X11_161 dX11_mightHe_2 (Nat.le_of_ble_eq_true rfl) (MtX_mono h (fun r m1 hq => ?_))
  obtain ⟨x3, rfl, h2⟩ := hq
  refine ⟨x3, rfl, ?_⟩
  refine a_istore_n dX11_mightHe_5 rfl (by decide) rfl ?_
  refine a_iload_n dX11_mightHe_6 rfl rfl ?_
  refine a_if_eq (tgt := 12) dX11_mightHe_7 (by decide) ⟨fun c4 => ?_, fun c4 => ?_⟩
  · refine a_aload_n dX11_mightHe_12 rfl rfl ?_
    refine gf_X11_19 dX11_mightHe_13 ?_
    refine a_aload_n dX11_mightHe_16 rfl rfl ?_
    refine gf_X11_10 dX11_mightHe_17 ?_
    refine iv_X11_146 dX11_mightHe_20 (Nat.le_of_ble_eq_true rfl) (MtX_mono (h2.1 c4) (fun r m5 hq => ?_))
    obtain ⟨rfl, h6⟩ := hq
    refine ⟨rfl, ?_⟩
    refine a_aload_n dX11_mightHe_23 rfl rfl ?_
    refine gf_X11_19 dX11_mightHe_24 ?_
    refine a_sipush (k := 1000) dX11_mightHe_27 (by decide) (n_lit (by decide)) ?_
    refine pf_X11_235 dX11_mightHe_30 ?_
    refine a_aload_n dX11_mightHe_33 rfl rfl ?_
    refine gf_X11_19 dX11_mightHe_34 ?_
    refine a_aload_n dX11_mightHe_37 rfl rfl ?_
    refine gf_X11_10 dX11_mightHe_38 ?_
    refine a_aload_n dX11_mightHe_41 rfl rfl ?_
    refine gf_X11_67 dX11_mightHe_42 ?_
    refine a_iload_n dX11_mightHe_45 rfl rfl ?_
    refine a_shelves dX11_mightHe_46 ⟨h6.1, ?_⟩
    refine iv_X11_201 dX11_mightHe_47 (Nat.le_of_ble_eq_true rfl) (MtX_mono h6.2 (fun r m7 hq => ?_))
    obtain ⟨rfl, h8⟩ := hq
    refine ⟨rfl, ?_⟩
    refine a_aload_n dX11_mightHe_50 rfl rfl ?_
    refine gf_X11_19 dX11_mightHe_51 ?_
    refine gf_X11_238 (x := m7 7 0 12) rfl dX11_mightHe_54 ?_
    refine a_bipush (k := 40) dX11_mightHe_57 (by decide) (n_lit (by decide)) ?_
    refine a_icmp_le (tgt := 67) dX11_mightHe_59 (by decide) ⟨fun c9 => ?_, fun c9 => ?_⟩
    · refine a_aload_n dX11_mightHe_67 rfl rfl ?_
      refine gf_X11_19 dX11_mightHe_68 ?_
      refine gf_X11_238 (x := m7 7 0 12) rfl dX11_mightHe_71 ?_
      exact a_iret dX11_mightHe_74 (h8.1 c9)
    · refine a_bipush (k := (-2)) dX11_mightHe_62 (by decide) (n_lit (by decide)) ?_
      refine a_goto (tgt := 74) dX11_mightHe_64 (by decide) ?_
      exact a_iret dX11_mightHe_74 (h8.2 c9)
  · refine a_iload_n dX11_mightHe_10 rfl rfl ?_
    exact a_iret dX11_mightHe_11 (h2.2 c4)
set_option maxRecDepth 10000 in
theorem sg_X11_line_0 {d : Nat} {sx : Option (List Int)} (a1 : Int) (mem : AMem) (Q : Option AV → AMem → Prop) (h : (a1 = 0 → (MtX yX2_corners cX2_corners 3 (some .int) d [vr 2 0] mem (fun r m2 => ∃ x4 : Int, r = some (vi x4) ∧ (Q (some (vi x4)) m2)))) ∧ (a1 = 1 → (MtX yX2_alone cX2_alone 3 (some .int) d [vr 2 0] mem (fun r m5 => ∃ x7 : Int, r = some (vi x7) ∧ (Q (some (vi x7)) m5)))) ∧ (a1 = 2 → (MtX yX2_chain cX2_chain 3 (some .int) d [vr 2 0] mem (fun r m8 => ∃ x10 : Int, r = some (vi x10) ∧ (Q (some (vi x10)) m8)))) ∧ (¬ (0 ≤ a1 ∧ a1 ≤ 2) → (Q (some (vi (-1))) mem))) : Y cX11_line 2 RX11 (d + 1) sx 0 [some (vr 11 0), some (vi a1)] [] mem Q := by
  refine a_iload_n dX11_line_0 rfl rfl ?_
  refine a_table dX11_line_1 (fun z => if z = 0 then 28 else if z = 1 then 36 else if z = 2 then 44 else 0) 52 (by decide) (by decide) (by decide) ⟨fun e1a e1b => ?_, fun e11 => ?_⟩
  · rcases (by omega : a1 = 0 ∨ a1 = 1 ∨ a1 = 2) with e1 | e1 | e1
    · refine Y_at (pc := 28) (by rw [e1]; rfl) ?_
      refine a_aload_n dX11_line_28 rfl rfl ?_
      refine gf_X11_10 dX11_line_29 ?_
      refine iv_X11_241 dX11_line_32 (Nat.le_of_ble_eq_true rfl) (MtX_mono (h.1 e1) (fun r m2 hq => ?_))
      obtain ⟨x4, rfl, h3⟩ := hq
      refine ⟨x4, rfl, ?_⟩
      exact a_iret dX11_line_35 h3
    · refine Y_at (pc := 36) (by rw [e1]; rfl) ?_
      refine a_aload_n dX11_line_36 rfl rfl ?_
      refine gf_X11_10 dX11_line_37 ?_
      refine iv_X11_244 dX11_line_40 (Nat.le_of_ble_eq_true rfl) (MtX_mono (h.2.1 e1) (fun r m5 hq => ?_))
      obtain ⟨x7, rfl, h6⟩ := hq
      refine ⟨x7, rfl, ?_⟩
      exact a_iret dX11_line_43 h6
    · refine Y_at (pc := 44) (by rw [e1]; rfl) ?_
      refine a_aload_n dX11_line_44 rfl rfl ?_
      refine gf_X11_10 dX11_line_45 ?_
      refine iv_X11_247 dX11_line_48 (Nat.le_of_ble_eq_true rfl) (MtX_mono (h.2.2.1 e1) (fun r m8 hq => ?_))
      obtain ⟨x10, rfl, h9⟩ := hq
      refine ⟨x10, rfl, ?_⟩
      exact a_iret dX11_line_51 h9
  · refine a_iconst (k := (-1)) dX11_line_52 (n_lit (by decide)) ?_
    exact a_iret dX11_line_53 (h.2.2.2 e11)
set_option maxRecDepth 10000 in
theorem sg_X11_left_0 {d : Nat} {sx : Option (List Int)} (a1 : Int) (a2 : Int) (a3 : Int) (mem : AMem) (Q : Option AV → AMem → Prop) (h : MtX yX11_notOdds cX11_notOdds 3 (some .boolean) d [vi a1, vi a2, vi a3] mem (fun r m1 => ∃ x3 : Int, r = some (vi x3) ∧ ((x3 = (0 : Int) → (MtX yX6_weigh cX6_weigh 10 none d [vr 6 0, vr 2 0, vi a1, vi a2, vi 0, vi 0] m1 (fun r m5 => r = none ∧ ((a3 ≠ (0 : Int) → (Q (some (vi (m5 6 0 3))) m5)) ∧ (a3 = (0 : Int) → (Q (some (vi (m5 6 0 2))) m5)))))) ∧ (¬ x3 = (0 : Int) → (Q (some (vi (-1))) m1))))) : Y cX11_left 4 RX11 (d + 1) sx 0 [some (vr 11 0), some (vi a1), some (vi a2), some (vi a3)] [] mem Q := by
  refine a_iload_n dX11_left_0 rfl rfl ?_
  refine a_iload_n dX11_left_1 rfl rfl ?_
  refine a_iload_n dX11_left_2 rfl rfl ?_
  refine iv_X11_250 dX11_left_3 (Nat.le_of_ble_eq_true rfl) (MtX_mono h (fun r m1 hq => ?_))
  obtain ⟨x3, rfl, h2⟩ := hq
  refine ⟨x3, rfl, ?_⟩
  refine a_if_eq (tgt := 11) dX11_left_6 (by decide) ⟨fun c4 => ?_, fun c4 => ?_⟩
  · refine a_aload_n dX11_left_11 rfl rfl ?_
    refine gf_X11_33 dX11_left_12 ?_
    refine a_aload_n dX11_left_15 rfl rfl ?_
    refine gf_X11_10 dX11_left_16 ?_
    refine a_iload_n dX11_left_19 rfl rfl ?_
    refine a_iload_n dX11_left_20 rfl rfl ?_
    refine a_iconst (k := 0) dX11_left_21 (n_lit (by decide)) ?_
    refine a_iconst (k := 0) dX11_left_22 (n_lit (by decide)) ?_
    refine iv_X11_254 dX11_left_23 (Nat.le_of_ble_eq_true rfl) (MtX_mono (h2.1 c4) (fun r m5 hq => ?_))
    obtain ⟨rfl, h6⟩ := hq
    refine ⟨rfl, ?_⟩
    refine a_iload_n dX11_left_26 rfl rfl ?_
    refine a_if_ne (tgt := 40) dX11_left_27 (by decide) ⟨fun c7 => ?_, fun c7 => ?_⟩
    · refine a_aload_n dX11_left_40 rfl rfl ?_
      refine gf_X11_33 dX11_left_41 ?_
      refine gf_X11_261 (x := m5 6 0 3) rfl dX11_left_44 ?_
      exact a_iret dX11_left_47 (h6.1 c7)
    · refine a_aload_n dX11_left_30 rfl rfl ?_
      refine gf_X11_33 dX11_left_31 ?_
      refine gf_X11_258 (x := m5 6 0 2) rfl dX11_left_34 ?_
      refine a_goto (tgt := 47) dX11_left_37 (by decide) ?_
      exact a_iret dX11_left_47 (h6.2 c7)
  · refine a_iconst (k := (-1)) dX11_left_9 (n_lit (by decide)) ?_
    exact a_iret dX11_left_10 (h2.2 c4)
set_option maxRecDepth 10000 in
theorem sg_X11_third_0 {d : Nat} {sx : Option (List Int)} (a1 : Int) (a2 : Int) (a3 : Int) (a4 : Int) (mem : AMem) (Q : Option AV → AMem → Prop) (h : MtX yX11_notOdds cX11_notOdds 3 (some .boolean) d [vi a1, vi a2, vi a4] mem (fun r m1 => ∃ x3 : Int, r = some (vi x3) ∧ ((x3 ≠ (0 : Int) → (Q (some (vi (-1))) m1)) ∧ (x3 = (0 : Int) → ((a3 < (0 : Int) → (Q (some (vi (-1))) m1)) ∧ (¬ a3 < (0 : Int) → ((a3 ≤ (2 : Int) → (MtX yX6_weigh cX6_weigh 10 none d [vr 6 0, vr 2 0, vi a1, vi a2, vi a3, vi 1] m1 (fun r m7 => r = none ∧ ((a4 ≠ (0 : Int) → (Q (some (vi (m7 6 0 3))) m7)) ∧ (a4 = (0 : Int) → (Q (some (vi (m7 6 0 2))) m7)))))) ∧ (¬ a3 ≤ (2 : Int) → (Q (some (vi (-1))) m1))))))))) : Y cX11_third 5 RX11 (d + 1) sx 0 [some (vr 11 0), some (vi a1), some (vi a2), some (vi a3), some (vi a4)] [] mem Q := by
  refine a_iload_n dX11_third_0 rfl rfl ?_
  refine a_iload_n dX11_third_1 rfl rfl ?_
  refine a_iload dX11_third_2 rfl ?_
  refine iv_X11_250 dX11_third_4 (Nat.le_of_ble_eq_true rfl) (MtX_mono h (fun r m1 hq => ?_))
  obtain ⟨x3, rfl, h2⟩ := hq
  refine ⟨x3, rfl, ?_⟩
  refine a_if_ne (tgt := 19) dX11_third_7 (by decide) ⟨fun c4 => ?_, fun c4 => ?_⟩
  · refine a_iconst (k := (-1)) dX11_third_19 (n_lit (by decide)) ?_
    exact a_iret dX11_third_20 (h2.1 c4)
  · refine a_iload_n dX11_third_10 rfl rfl ?_
    refine a_if_lt (tgt := 19) dX11_third_11 (by decide) ⟨fun c5 => ?_, fun c5 => ?_⟩
    · refine a_iconst (k := (-1)) dX11_third_19 (n_lit (by decide)) ?_
      exact a_iret dX11_third_20 ((h2.2 c4).1 c5)
    · refine a_iload_n dX11_third_14 rfl rfl ?_
      refine a_iconst (k := 2) dX11_third_15 (n_lit (by decide)) ?_
      refine a_icmp_le (tgt := 21) dX11_third_16 (by decide) ⟨fun c6 => ?_, fun c6 => ?_⟩
      · refine a_aload_n dX11_third_21 rfl rfl ?_
        refine gf_X11_33 dX11_third_22 ?_
        refine a_aload_n dX11_third_25 rfl rfl ?_
        refine gf_X11_10 dX11_third_26 ?_
        refine a_iload_n dX11_third_29 rfl rfl ?_
        refine a_iload_n dX11_third_30 rfl rfl ?_
        refine a_iload_n dX11_third_31 rfl rfl ?_
        refine a_iconst (k := 1) dX11_third_32 (n_lit (by decide)) ?_
        refine iv_X11_254 dX11_third_33 (Nat.le_of_ble_eq_true rfl) (MtX_mono (((h2.2 c4).2 c5).1 c6) (fun r m7 hq => ?_))
        obtain ⟨rfl, h8⟩ := hq
        refine ⟨rfl, ?_⟩
        refine a_iload dX11_third_36 rfl ?_
        refine a_if_ne (tgt := 51) dX11_third_38 (by decide) ⟨fun c9 => ?_, fun c9 => ?_⟩
        · refine a_aload_n dX11_third_51 rfl rfl ?_
          refine gf_X11_33 dX11_third_52 ?_
          refine gf_X11_261 (x := m7 6 0 3) rfl dX11_third_55 ?_
          exact a_iret dX11_third_58 (h8.1 c9)
        · refine a_aload_n dX11_third_41 rfl rfl ?_
          refine gf_X11_33 dX11_third_42 ?_
          refine gf_X11_258 (x := m7 6 0 2) rfl dX11_third_45 ?_
          refine a_goto (tgt := 58) dX11_third_48 (by decide) ?_
          exact a_iret dX11_third_58 (h8.2 c9)
      · refine a_iconst (k := (-1)) dX11_third_19 (n_lit (by decide)) ?_
        exact a_iret dX11_third_20 (((h2.2 c4).2 c5).2 c6)
set_option maxRecDepth 10000 in
theorem sg_X11_judge_0 {d : Nat} {sx : Option (List Int)} (a1 : Int) (a2 : Int) (mem : AMem) (Q : Option AV → AMem → Prop) (h : MtX yX11_notSizes cX11_notSizes 3 (some .boolean) d [vi a2] mem (fun r m1 => ∃ x3 : Int, r = some (vi x3) ∧ ((x3 = (0 : Int) → (MtX yX11_refusalOfBytes cX11_refusalOfBytes 2 (some .int) d [vr 11 0, vi a1] m1 (fun r m5 => ∃ x7 : Int, r = some (vi x7) ∧ ((x7 = (0 : Int) → ((0 ≤ a1 ∧ a1 < 6) ∧ (MtX yX9_read cX9_read 5 (some .int) d [vr 9 0, vr 10 (Int.toNat a1), vi a2] m5 (fun r m9 => ∃ x11 : Int, r = some (vi x11) ∧ (Q (some (vi x11)) m9))))) ∧ (¬ x7 = (0 : Int) → (Q (some (vi x7)) m5)))))) ∧ (¬ x3 = (0 : Int) → (Q (some (vi (-1))) m1))))) : Y cX11_judge 4 RX11 (d + 1) sx 0 [some (vr 11 0), some (vi a1), some (vi a2), none] [] mem Q := by
  refine a_iload_n dX11_judge_0 rfl rfl ?_
  refine iv_X11_263 dX11_judge_1 (Nat.le_of_ble_eq_true rfl) (MtX_mono h (fun r m1 hq => ?_))
  obtain ⟨x3, rfl, h2⟩ := hq
  refine ⟨x3, rfl, ?_⟩
  refine a_if_eq (tgt := 9) dX11_judge_4 (by decide) ⟨fun c4 => ?_, fun c4 => ?_⟩
  · refine a_aload_n dX11_judge_9 rfl rfl ?_
    refine a_iload_n dX11_judge_10 rfl rfl ?_
    refine iv_X11_161 dX11_judge_11 (Nat.le_of_ble_eq_true rfl) (MtX_mono (h2.1 c4) (fun r m5 hq => ?_))
    obtain ⟨x7, rfl, h6⟩ := hq
    refine ⟨x7, rfl, ?_⟩
    refine a_istore_n dX11_judge_14 rfl (by decide) rfl ?_
    refine a_iload_n dX11_judge_15 rfl rfl ?_
    refine a_if_eq (tgt := 23) dX11_judge_16 (by decide) ⟨fun c8 => ?_, fun c8 => ?_⟩
    · refine a_aload_n dX11_judge_23 rfl rfl ?_
      refine gf_X11_40 dX11_judge_24 ?_
      refine a_aload_n dX11_judge_27 rfl rfl ?_
      refine gf_X11_67 dX11_judge_28 ?_
      refine a_iload_n dX11_judge_31 rfl rfl ?_
      refine a_shelves dX11_judge_32 ⟨(h6.1 c8).1, ?_⟩
      refine a_iload_n dX11_judge_33 rfl rfl ?_
      refine iv_X11_266 dX11_judge_34 (Nat.le_of_ble_eq_true rfl) (MtX_mono (h6.1 c8).2 (fun r m9 hq => ?_))
      obtain ⟨x11, rfl, h10⟩ := hq
      refine ⟨x11, rfl, ?_⟩
      exact a_iret dX11_judge_37 h10
    · refine a_iload_n dX11_judge_19 rfl rfl ?_
      refine a_goto (tgt := 37) dX11_judge_20 (by decide) ?_
      exact a_iret dX11_judge_37 (h6.2 c8)
  · refine a_iconst (k := (-1)) dX11_judge_7 (n_lit (by decide)) ?_
    exact a_iret dX11_judge_8 (h2.2 c4)
set_option maxRecDepth 10000 in
theorem sg_X11_bench_0 {d : Nat} {sx : Option (List Int)} (a1 : Int) (a2 : Int) (a3 : Int) (a4 : Int) (mem : AMem) (Q : Option AV → AMem → Prop) (h : MtX yX11_notSizes cX11_notSizes 3 (some .boolean) d [vi a2] mem (fun r m1 => ∃ x3 : Int, r = some (vi x3) ∧ ((x3 ≠ (0 : Int) → (Q (some (vi (-1))) m1)) ∧ (x3 = (0 : Int) → ((a3 < (0 : Int) → (Q (some (vi (-1))) m1)) ∧ (¬ a3 < (0 : Int) → (((1 : Int) < a3 → (Q (some (vi (-1))) m1)) ∧ (¬ (1 : Int) < a3 → ((a4 < (0 : Int) → (Q (some (vi (-1))) m1)) ∧ (¬ a4 < (0 : Int) → ((a4 ≤ (2 : Int) → (MtX yX11_refusalOfBytes cX11_refusalOfBytes 2 (some .int) d [vr 11 0, vi a1] m1 (fun r m9 => ∃ x11 : Int, r = some (vi x11) ∧ ((x11 = (0 : Int) → ((0 ≤ a1 ∧ a1 < 6) ∧ (MtX yX9_read cX9_read 5 (some .int) d [vr 9 0, vr 10 (Int.toNat a1), vi a2] m9 (fun r m13 => ∃ x15 : Int, r = some (vi x15) ∧ ((a4 = 0 → ((0 ≤ a3 ∧ a3 < 2) ∧ (Q (some (vi (m13 1000 0 a3))) m13))) ∧ (a4 = 1 → (MtX yX9_outLongest cX9_outLongest 2 (some .int) d [vr 9 0, vi a3] m13 (fun r m17 => ∃ x19 : Int, r = some (vi x19) ∧ (Q (some (vi x19)) m17)))) ∧ (¬ a4 = 0 → ¬ a4 = 1 → ((0 ≤ a3 ∧ a3 < 2) ∧ (Q (some (vi (m13 1001 0 a3))) m13)))))))) ∧ (¬ x11 = (0 : Int) → (Q (some (vi x11)) m9)))))) ∧ (¬ a4 ≤ (2 : Int) → (Q (some (vi (-1))) m1))))))))))))) : Y cX11_bench 6 RX11 (d + 1) sx 0 [some (vr 11 0), some (vi a1), some (vi a2), some (vi a3), some (vi a4), none] [] mem Q := by
  refine a_iload_n dX11_bench_0 rfl rfl ?_
  refine iv_X11_263 dX11_bench_1 (Nat.le_of_ble_eq_true rfl) (MtX_mono h (fun r m1 hq => ?_))
  obtain ⟨x3, rfl, h2⟩ := hq
  refine ⟨x3, rfl, ?_⟩
  refine a_if_ne (tgt := 27) dX11_bench_4 (by decide) ⟨fun c4 => ?_, fun c4 => ?_⟩
  · refine a_iconst (k := (-1)) dX11_bench_27 (n_lit (by decide)) ?_
    exact a_iret dX11_bench_28 (h2.1 c4)
  · refine a_iload_n dX11_bench_7 rfl rfl ?_
    refine a_if_lt (tgt := 27) dX11_bench_8 (by decide) ⟨fun c5 => ?_, fun c5 => ?_⟩
    · refine a_iconst (k := (-1)) dX11_bench_27 (n_lit (by decide)) ?_
      exact a_iret dX11_bench_28 ((h2.2 c4).1 c5)
    · refine a_iload_n dX11_bench_11 rfl rfl ?_
      refine a_iconst (k := 1) dX11_bench_12 (n_lit (by decide)) ?_
      refine a_icmp_gt (tgt := 27) dX11_bench_13 (by decide) ⟨fun c6 => ?_, fun c6 => ?_⟩
      · refine a_iconst (k := (-1)) dX11_bench_27 (n_lit (by decide)) ?_
        exact a_iret dX11_bench_28 (((h2.2 c4).2 c5).1 c6)
      · refine a_iload dX11_bench_16 rfl ?_
        refine a_if_lt (tgt := 27) dX11_bench_18 (by decide) ⟨fun c7 => ?_, fun c7 => ?_⟩
        · refine a_iconst (k := (-1)) dX11_bench_27 (n_lit (by decide)) ?_
          exact a_iret dX11_bench_28 ((((h2.2 c4).2 c5).2 c6).1 c7)
        · refine a_iload dX11_bench_21 rfl ?_
          refine a_iconst (k := 2) dX11_bench_23 (n_lit (by decide)) ?_
          refine a_icmp_le (tgt := 29) dX11_bench_24 (by decide) ⟨fun c8 => ?_, fun c8 => ?_⟩
          · refine a_aload_n dX11_bench_29 rfl rfl ?_
            refine a_iload_n dX11_bench_30 rfl rfl ?_
            refine iv_X11_161 dX11_bench_31 (Nat.le_of_ble_eq_true rfl) (MtX_mono (((((h2.2 c4).2 c5).2 c6).2 c7).1 c8) (fun r m9 hq => ?_))
            obtain ⟨x11, rfl, h10⟩ := hq
            refine ⟨x11, rfl, ?_⟩
            refine a_istore dX11_bench_34 (by decide) rfl ?_
            refine a_iload dX11_bench_36 rfl ?_
            refine a_if_eq (tgt := 44) dX11_bench_38 (by decide) ⟨fun c12 => ?_, fun c12 => ?_⟩
            · refine a_aload_n dX11_bench_44 rfl rfl ?_
              refine gf_X11_40 dX11_bench_45 ?_
              refine a_aload_n dX11_bench_48 rfl rfl ?_
              refine gf_X11_67 dX11_bench_49 ?_
              refine a_iload_n dX11_bench_52 rfl rfl ?_
              refine a_shelves dX11_bench_53 ⟨(h10.1 c12).1, ?_⟩
              refine a_iload_n dX11_bench_54 rfl rfl ?_
              refine iv_X11_266 dX11_bench_55 (Nat.le_of_ble_eq_true rfl) (MtX_mono (h10.1 c12).2 (fun r m13 hq => ?_))
              obtain ⟨x15, rfl, h14⟩ := hq
              refine ⟨x15, rfl, ?_⟩
              refine a_pop dX11_bench_58 rfl ?_
              refine a_iload dX11_bench_59 rfl ?_
              by_cases e160 : a4 = 0
              · refine a_lookup (tgt := 88) 27 dX11_bench_61 (by decide) (z_hit e160) (by decide) ?_
                refine a_aload_n dX11_bench_88 rfl rfl ?_
                refine gf_X11_40 dX11_bench_89 ?_
                refine gf_X11_269 dX11_bench_92 ?_
                refine a_iload_n dX11_bench_95 rfl rfl ?_
                refine a_iald rfl rfl (by decide) rfl dX11_bench_96 ⟨(h14.1 e160).1, ?_⟩
                exact a_iret dX11_bench_97 (h14.1 e160).2
              by_cases e161 : a4 = 1
              · refine a_lookup (tgt := 98) 37 dX11_bench_61 (by decide) (z_miss e160 (z_hit e161)) (by decide) ?_
                refine a_aload_n dX11_bench_98 rfl rfl ?_
                refine gf_X11_40 dX11_bench_99 ?_
                refine a_iload_n dX11_bench_102 rfl rfl ?_
                refine iv_X11_271 dX11_bench_103 (Nat.le_of_ble_eq_true rfl) (MtX_mono (h14.2.1 e161) (fun r m17 hq => ?_))
                obtain ⟨x19, rfl, h18⟩ := hq
                refine ⟨x19, rfl, ?_⟩
                exact a_iret dX11_bench_106 h18
              refine a_lookup (tgt := 107) 46 dX11_bench_61 (by decide) (z_miss e160 (z_miss e161 (z_nil))) (by decide) ?_
              refine a_aload_n dX11_bench_107 rfl rfl ?_
              refine gf_X11_40 dX11_bench_108 ?_
              refine gf_X11_274 dX11_bench_111 ?_
              refine a_iload_n dX11_bench_114 rfl rfl ?_
              refine a_iald rfl rfl (by decide) rfl dX11_bench_115 ⟨(h14.2.2 e160 e161).1, ?_⟩
              exact a_iret dX11_bench_116 (h14.2.2 e160 e161).2
            · refine a_iload dX11_bench_41 rfl ?_
              exact a_iret dX11_bench_43 (h10.2 c12)
          · refine a_iconst (k := (-1)) dX11_bench_27 (n_lit (by decide)) ?_
            exact a_iret dX11_bench_28 (((((h2.2 c4).2 c5).2 c6).2 c7).2 c8)
set_option maxRecDepth 10000 in
theorem sg_X11_drawn_0 {d : Nat} {sx : Option (List Int)} (a1 : Int) (a2 : Int) (a3 : Int) (mem : AMem) (Q : Option AV → AMem → Prop) (h : (a2 < (1 : Int) → (Q (some (vi (-1))) mem)) ∧ (¬ a2 < (1 : Int) → (((50 : Int) < a2 → (Q (some (vi (-1))) mem)) ∧ (¬ (50 : Int) < a2 → ((a3 < (0 : Int) → (Q (some (vi (-1))) mem)) ∧ (¬ a3 < (0 : Int) → ((a3 ≤ (1 : Int) → (Y cX11_drawn 8 RX11 (d + 1) sx 34 [some (vr 11 0), some (vi a1), some (vi a2), some (vi a3), some (vi a1), some (vi 0), some (vi 0), some (vi 0)] [] mem Q)) ∧ (¬ a3 ≤ (1 : Int) → (Q (some (vi (-1))) mem))))))))) : Y cX11_drawn 8 RX11 (d + 1) sx 0 [some (vr 11 0), some (vi a1), some (vi a2), some (vi a3), none, none, none, none] [] mem Q := by
  refine a_iload_n dX11_drawn_0 rfl rfl ?_
  refine a_iconst (k := 1) dX11_drawn_1 (n_lit (by decide)) ?_
  refine a_icmp_lt (tgt := 20) dX11_drawn_2 (by decide) ⟨fun c1 => ?_, fun c1 => ?_⟩
  · refine a_iconst (k := (-1)) dX11_drawn_20 (n_lit (by decide)) ?_
    exact a_iret dX11_drawn_21 (h.1 c1)
  · refine a_iload_n dX11_drawn_5 rfl rfl ?_
    refine a_bipush (k := 50) dX11_drawn_6 (by decide) (n_lit (by decide)) ?_
    refine a_icmp_gt (tgt := 20) dX11_drawn_8 (by decide) ⟨fun c2 => ?_, fun c2 => ?_⟩
    · refine a_iconst (k := (-1)) dX11_drawn_20 (n_lit (by decide)) ?_
      exact a_iret dX11_drawn_21 ((h.2 c1).1 c2)
    · refine a_iload_n dX11_drawn_11 rfl rfl ?_
      refine a_if_lt (tgt := 20) dX11_drawn_12 (by decide) ⟨fun c3 => ?_, fun c3 => ?_⟩
      · refine a_iconst (k := (-1)) dX11_drawn_20 (n_lit (by decide)) ?_
        exact a_iret dX11_drawn_21 (((h.2 c1).2 c2).1 c3)
      · refine a_iload_n dX11_drawn_15 rfl rfl ?_
        refine a_iconst (k := 1) dX11_drawn_16 (n_lit (by decide)) ?_
        refine a_icmp_le (tgt := 22) dX11_drawn_17 (by decide) ⟨fun c4 => ?_, fun c4 => ?_⟩
        · refine a_iload_n dX11_drawn_22 rfl rfl ?_
          refine a_istore dX11_drawn_23 (by decide) rfl ?_
          refine a_iconst (k := 0) dX11_drawn_25 (n_lit (by decide)) ?_
          refine a_istore dX11_drawn_26 (by decide) rfl ?_
          refine a_iconst (k := 0) dX11_drawn_28 (n_lit (by decide)) ?_
          refine a_istore dX11_drawn_29 (by decide) rfl ?_
          refine a_iconst (k := 0) dX11_drawn_31 (n_lit (by decide)) ?_
          refine a_istore dX11_drawn_32 (by decide) rfl ?_
          exact ((((h.2 c1).2 c2).2 c3).1 c4)
        · refine a_iconst (k := (-1)) dX11_drawn_20 (n_lit (by decide)) ?_
          exact a_iret dX11_drawn_21 ((((h.2 c1).2 c2).2 c3).2 c4)
set_option maxRecDepth 10000 in
theorem sg_X11_drawn_34 {d : Nat} {sx : Option (List Int)} (a1 : Int) (a2 : Int) (a3 : Int) (a4 : Int) (a5 : Int) (a6 : Int) (a7 : Int) (mem : AMem) (Q : Option AV → AMem → Prop) (h : (a2 ≤ a7 → ((a3 ≠ (0 : Int) → (Q (some (vi a6)) mem)) ∧ (a3 = (0 : Int) → (Q (some (vi a5)) mem)))) ∧ (¬ a2 ≤ a7 → (MtX yX7_begin cX7_begin 2 none d [vr 7 0, vr 2 0] mem (fun r m3 => r = none ∧ (MtX yX7_playDrawn cX7_playDrawn 6 (some .int) d [vr 7 0, vr 2 0, vi a4] m3 (fun r m5 => ∃ x7 : Int, r = some (vi x7) ∧ (MtX yX7_points cX7_points 1 (some .int) d [vr 7 0] m5 (fun r m8 => ∃ x10 : Int, r = some (vi x10) ∧ (((m8 7 0 13) ≠ (2 : Int) → (Y cX11_drawn 8 RX11 (d + 1) sx 34 [some (vr 11 0), some (vi a1), some (vi a2), some (vi a3), some (vi x7), some (vi (w32 (a5 + x10))), some (vi (w32 (a6 + 0))), some (vi (w32 (a7 + 1)))] [] m8 Q)) ∧ ((m8 7 0 13) = (2 : Int) → (Y cX11_drawn 8 RX11 (d + 1) sx 34 [some (vr 11 0), some (vi a1), some (vi a2), some (vi a3), some (vi x7), some (vi (w32 (a5 + x10))), some (vi (w32 (a6 + 1))), some (vi (w32 (a7 + 1)))] [] m8 Q))))))))))) : Y cX11_drawn 8 RX11 (d + 1) sx 34 [some (vr 11 0), some (vi a1), some (vi a2), some (vi a3), some (vi a4), some (vi a5), some (vi a6), some (vi a7)] [] mem Q := by
  refine a_iload dX11_drawn_34 rfl ?_
  refine a_iload_n dX11_drawn_36 rfl rfl ?_
  refine a_icmp_ge (tgt := 105) dX11_drawn_37 (by decide) ⟨fun c1 => ?_, fun c1 => ?_⟩
  · refine a_iload_n dX11_drawn_105 rfl rfl ?_
    refine a_if_ne (tgt := 114) dX11_drawn_106 (by decide) ⟨fun c2 => ?_, fun c2 => ?_⟩
    · refine a_iload dX11_drawn_114 rfl ?_
      exact a_iret dX11_drawn_116 ((h.1 c1).1 c2)
    · refine a_iload dX11_drawn_109 rfl ?_
      refine a_goto (tgt := 116) dX11_drawn_111 (by decide) ?_
      exact a_iret dX11_drawn_116 ((h.1 c1).2 c2)
  · refine a_aload_n dX11_drawn_40 rfl rfl ?_
    refine gf_X11_19 dX11_drawn_41 ?_
    refine a_aload_n dX11_drawn_44 rfl rfl ?_
    refine gf_X11_10 dX11_drawn_45 ?_
    refine iv_X11_146 dX11_drawn_48 (Nat.le_of_ble_eq_true rfl) (MtX_mono (h.2 c1) (fun r m3 hq => ?_))
    obtain ⟨rfl, h4⟩ := hq
    refine ⟨rfl, ?_⟩
    refine a_aload_n dX11_drawn_51 rfl rfl ?_
    refine gf_X11_19 dX11_drawn_52 ?_
    refine a_aload_n dX11_drawn_55 rfl rfl ?_
    refine gf_X11_10 dX11_drawn_56 ?_
    refine a_iload dX11_drawn_59 rfl ?_
    refine iv_X11_276 dX11_drawn_61 (Nat.le_of_ble_eq_true rfl) (MtX_mono h4 (fun r m5 hq => ?_))
    obtain ⟨x7, rfl, h6⟩ := hq
    refine ⟨x7, rfl, ?_⟩
    refine a_istore dX11_drawn_64 (by decide) rfl ?_
    refine a_iload dX11_drawn_66 rfl ?_
    refine a_aload_n dX11_drawn_68 rfl rfl ?_
    refine gf_X11_19 dX11_drawn_69 ?_
    refine iv_X11_174 dX11_drawn_72 (Nat.le_of_ble_eq_true rfl) (MtX_mono h6 (fun r m8 hq => ?_))
    obtain ⟨x10, rfl, h9⟩ := hq
    refine ⟨x10, rfl, ?_⟩
    refine a_iadd dX11_drawn_75 ?_
    refine a_istore dX11_drawn_76 (by decide) rfl ?_
    refine a_iload dX11_drawn_78 rfl ?_
    refine a_aload_n dX11_drawn_80 rfl rfl ?_
    refine gf_X11_19 dX11_drawn_81 ?_
    refine gf_X11_168 (x := m8 7 0 13) rfl dX11_drawn_84 ?_
    refine a_iconst (k := 2) dX11_drawn_87 (n_lit (by decide)) ?_
    refine a_icmp_ne (tgt := 95) dX11_drawn_88 (by decide) ⟨fun c11 => ?_, fun c11 => ?_⟩
    · refine a_iconst (k := 0) dX11_drawn_95 (n_lit (by decide)) ?_
      refine a_iadd dX11_drawn_96 ?_
      refine a_istore dX11_drawn_97 (by decide) rfl ?_
      refine a_iinc dX11_drawn_99 rfl (by decide) rfl ?_
      refine a_goto (tgt := 34) dX11_drawn_102 (by decide) ?_
      exact (h9.1 c11)
    · refine a_iconst (k := 1) dX11_drawn_91 (n_lit (by decide)) ?_
      refine a_goto (tgt := 96) dX11_drawn_92 (by decide) ?_
      refine a_iadd dX11_drawn_96 ?_
      refine a_istore dX11_drawn_97 (by decide) rfl ?_
      refine a_iinc dX11_drawn_99 rfl (by decide) rfl ?_
      refine a_goto (tgt := 34) dX11_drawn_102 (by decide) ?_
      exact (h9.2 c11)
set_option maxRecDepth 10000 in
theorem sg_X11_go_0 {d : Nat} {sx : Option (List Int)} (a1 : Int) (mem : AMem) (Q : Option AV → AMem → Prop) (h : MtX yX11_refusalOfBytes cX11_refusalOfBytes 2 (some .int) d [vr 11 0, vi a1] mem (fun r m1 => ∃ x3 : Int, r = some (vi x3) ∧ ((x3 = (0 : Int) → (MtX yX11_thinkThrough cX11_thinkThrough 2 none d [vr 11 0, vi a1] m1 (fun r m5 => r = none ∧ (MtX yX5_enter cX5_enter 7 none d [vr 5 0, vr 7 0, vr 2 0] m5 (fun r m7 => r = none ∧ (Q (some (vi (m7 7 0 13))) m7)))))) ∧ (¬ x3 = (0 : Int) → (Q (some (vi x3)) m1))))) : Y cX11_go 3 RX11 (d + 1) sx 0 [some (vr 11 0), some (vi a1), none] [] mem Q := by
  refine a_aload_n dX11_go_0 rfl rfl ?_
  refine a_iload_n dX11_go_1 rfl rfl ?_
  refine iv_X11_161 dX11_go_2 (Nat.le_of_ble_eq_true rfl) (MtX_mono h (fun r m1 hq => ?_))
  obtain ⟨x3, rfl, h2⟩ := hq
  refine ⟨x3, rfl, ?_⟩
  refine a_istore_n dX11_go_5 rfl (by decide) rfl ?_
  refine a_iload_n dX11_go_6 rfl rfl ?_
  refine a_if_eq (tgt := 12) dX11_go_7 (by decide) ⟨fun c4 => ?_, fun c4 => ?_⟩
  · refine a_aload_n dX11_go_12 rfl rfl ?_
    refine a_iload_n dX11_go_13 rfl rfl ?_
    refine iv_X11_164 dX11_go_14 (Nat.le_of_ble_eq_true rfl) (MtX_mono (h2.1 c4) (fun r m5 hq => ?_))
    obtain ⟨rfl, h6⟩ := hq
    refine ⟨rfl, ?_⟩
    refine a_aload_n dX11_go_17 rfl rfl ?_
    refine gf_X11_47 dX11_go_18 ?_
    refine a_aload_n dX11_go_21 rfl rfl ?_
    refine gf_X11_19 dX11_go_22 ?_
    refine a_aload_n dX11_go_25 rfl rfl ?_
    refine gf_X11_10 dX11_go_26 ?_
    refine iv_X11_279 dX11_go_29 (Nat.le_of_ble_eq_true rfl) (MtX_mono h6 (fun r m7 hq => ?_))
    obtain ⟨rfl, h8⟩ := hq
    refine ⟨rfl, ?_⟩
    refine a_aload_n dX11_go_32 rfl rfl ?_
    refine gf_X11_19 dX11_go_33 ?_
    refine gf_X11_168 (x := m7 7 0 13) rfl dX11_go_36 ?_
    exact a_iret dX11_go_39 h8
  · refine a_iload_n dX11_go_10 rfl rfl ?_
    exact a_iret dX11_go_11 (h2.2 c4)
set_option maxRecDepth 10000 in
theorem sg_X11_allIn_0 {d : Nat} {sx : Option (List Int)}  (mem : AMem) (Q : Option AV → AMem → Prop) (h : MtX yX2_everybody cX2_everybody 1 (some .int) d [vr 2 0] mem (fun r m1 => ∃ x3 : Int, r = some (vi x3) ∧ (MtX yJ6_bitCount_0f7a4 cJ6_bitCount_0f7a4 1 (some .int) d [vi (m1 2 0 4)] m1 (fun r m4 => ∃ x6 : Int, r = some (vi x6) ∧ (MtX yX2_letIn cX2_letIn 2 none d [vr 2 0, vi x3] m4 (fun r m7 => r = none ∧ (Q (some (vi (w32 ((m7 2 0 5) - x6)))) m7))))))) : Y cX11_allIn 3 RX11 (d + 1) sx 0 [some (vr 11 0), none, none] [] mem Q := by
  refine a_aload_n dX11_allIn_0 rfl rfl ?_
  refine gf_X11_10 dX11_allIn_1 ?_
  refine iv_X11_283 dX11_allIn_4 (Nat.le_of_ble_eq_true rfl) (MtX_mono h (fun r m1 hq => ?_))
  obtain ⟨x3, rfl, h2⟩ := hq
  refine ⟨x3, rfl, ?_⟩
  refine a_istore_n dX11_allIn_7 rfl (by decide) rfl ?_
  refine a_aload_n dX11_allIn_8 rfl rfl ?_
  refine gf_X11_10 dX11_allIn_9 ?_
  refine gf_X11_286 (x := m1 2 0 4) rfl dX11_allIn_12 ?_
  refine iv_X11_287 dX11_allIn_15 (Nat.le_of_ble_eq_true rfl) (MtX_mono h2 (fun r m4 hq => ?_))
  obtain ⟨x6, rfl, h5⟩ := hq
  refine ⟨x6, rfl, ?_⟩
  refine a_istore_n dX11_allIn_18 rfl (by decide) rfl ?_
  refine a_aload_n dX11_allIn_19 rfl rfl ?_
  refine gf_X11_10 dX11_allIn_20 ?_
  refine a_iload_n dX11_allIn_23 rfl rfl ?_
  refine iv_X11_292 dX11_allIn_24 (Nat.le_of_ble_eq_true rfl) (MtX_mono h5 (fun r m7 hq => ?_))
  obtain ⟨rfl, h8⟩ := hq
  refine ⟨rfl, ?_⟩
  refine a_aload_n dX11_allIn_27 rfl rfl ?_
  refine gf_X11_10 dX11_allIn_28 ?_
  refine gf_X11_190 (x := m7 2 0 5) rfl dX11_allIn_31 ?_
  refine a_iload_n dX11_allIn_34 rfl rfl ?_
  refine a_isub dX11_allIn_35 ?_
  exact a_iret dX11_allIn_36 h8
set_option maxRecDepth 10000 in
theorem sg_X11_led_0 {d : Nat} {sx : Option (List Int)} (a1 : Int) (mem : AMem) (Q : Option AV → AMem → Prop) (h : (a1 < (0 : Int) → (Q (some (vi (-1))) mem)) ∧ (¬ a1 < (0 : Int) → ((a1 < (5 : Int) → ((0 ≤ a1 ∧ a1 < 5) ∧ (Q (some (vi (mem 600 0 a1))) mem))) ∧ (¬ a1 < (5 : Int) → (Q (some (vi (-1))) mem))))) : Y cX11_led 2 RX11 (d + 1) sx 0 [some (vr 11 0), some (vi a1)] [] mem Q := by
  refine a_iload_n dX11_led_0 rfl rfl ?_
  refine a_if_lt (tgt := 9) dX11_led_1 (by decide) ⟨fun c1 => ?_, fun c1 => ?_⟩
  · refine a_iconst (k := (-1)) dX11_led_9 (n_lit (by decide)) ?_
    refine a_goto (tgt := 22) dX11_led_10 (by decide) ?_
    exact a_iret dX11_led_22 (h.1 c1)
  · refine a_iload_n dX11_led_4 rfl rfl ?_
    refine a_iconst (k := 5) dX11_led_5 (n_lit (by decide)) ?_
    refine a_icmp_lt (tgt := 13) dX11_led_6 (by decide) ⟨fun c2 => ?_, fun c2 => ?_⟩
    · refine a_aload_n dX11_led_13 rfl rfl ?_
      refine gf_X11_47 dX11_led_14 ?_
      refine gf_X11_295 dX11_led_17 ?_
      refine a_iload_n dX11_led_20 rfl rfl ?_
      refine a_iald rfl rfl (by decide) rfl dX11_led_21 ⟨((h.2 c1).1 c2).1, ?_⟩
      exact a_iret dX11_led_22 ((h.2 c1).1 c2).2
    · refine a_iconst (k := (-1)) dX11_led_9 (n_lit (by decide)) ?_
      refine a_goto (tgt := 22) dX11_led_10 (by decide) ?_
      exact a_iret dX11_led_22 ((h.2 c1).2 c2)
set_option maxRecDepth 10000 in
theorem sg_X11_image_0 {d : Nat} {sx : Option (List Int)}  (mem : AMem) (Q : Option AV → AMem → Prop) (h : MtX yX5_keepImage cX5_keepImage 2 none d [vr 5 0, vr 2 0] mem (fun r m1 => r = none ∧ ((0 ≤ (0 : Int) ∧ (0 : Int) < 5) ∧ (Q (some (vi (m1 600 0 0))) m1)))) : Y cX11_image 1 RX11 (d + 1) sx 0 [some (vr 11 0)] [] mem Q := by
  refine a_aload_n dX11_image_0 rfl rfl ?_
  refine gf_X11_47 dX11_image_1 ?_
  refine a_aload_n dX11_image_4 rfl rfl ?_
  refine gf_X11_10 dX11_image_5 ?_
  refine iv_X11_298 dX11_image_8 (Nat.le_of_ble_eq_true rfl) (MtX_mono h (fun r m1 hq => ?_))
  obtain ⟨rfl, h2⟩ := hq
  refine ⟨rfl, ?_⟩
  refine a_aload_n dX11_image_11 rfl rfl ?_
  refine gf_X11_47 dX11_image_12 ?_
  refine gf_X11_295 dX11_image_15 ?_
  refine a_iconst (k := 0) dX11_image_18 (n_lit (by decide)) ?_
  refine a_iald rfl rfl (by decide) rfl dX11_image_19 ⟨h2.1, ?_⟩
  exact a_iret dX11_image_20 h2.2
set_option maxRecDepth 10000 in
theorem sg_X11_back_0 {d : Nat} {sx : Option (List Int)}  (mem : AMem) (Q : Option AV → AMem → Prop) (h : MtX yX5_layBack cX5_layBack 2 (some .boolean) d [vr 5 0, vr 2 0] mem (fun r m1 => ∃ x3 : Int, r = some (vi x3) ∧ ((x3 = (0 : Int) → (Q (some (vi (-5))) m1)) ∧ (¬ x3 = (0 : Int) → ((0 ≤ (0 : Int) ∧ (0 : Int) < 5) ∧ (Q (some (vi (m1 600 0 0))) m1)))))) : Y cX11_back 1 RX11 (d + 1) sx 0 [some (vr 11 0)] [] mem Q := by
  refine a_aload_n dX11_back_0 rfl rfl ?_
  refine gf_X11_47 dX11_back_1 ?_
  refine a_aload_n dX11_back_4 rfl rfl ?_
  refine gf_X11_10 dX11_back_5 ?_
  refine iv_X11_301 dX11_back_8 (Nat.le_of_ble_eq_true rfl) (MtX_mono h (fun r m1 hq => ?_))
  obtain ⟨x3, rfl, h2⟩ := hq
  refine ⟨x3, rfl, ?_⟩
  refine a_if_eq (tgt := 26) dX11_back_11 (by decide) ⟨fun c4 => ?_, fun c4 => ?_⟩
  · refine a_bipush (k := (-5)) dX11_back_26 (by decide) (n_lit (by decide)) ?_
    exact a_iret dX11_back_28 (h2.1 c4)
  · refine a_aload_n dX11_back_14 rfl rfl ?_
    refine gf_X11_47 dX11_back_15 ?_
    refine gf_X11_295 dX11_back_18 ?_
    refine a_iconst (k := 0) dX11_back_21 (n_lit (by decide)) ?_
    refine a_iald rfl rfl (by decide) rfl dX11_back_22 ⟨(h2.2 c4).1, ?_⟩
    refine a_goto (tgt := 28) dX11_back_23 (by decide) ?_
    exact a_iret dX11_back_28 (h2.2 c4).2
set_option maxRecDepth 10000 in
theorem sg_X11_undo_0 {d : Nat} {sx : Option (List Int)}  (mem : AMem) (Q : Option AV → AMem → Prop) (h : MtX yX1_takeBack cX1_takeBack 2 (some .boolean) d [vr 1 0, vr 2 0] mem (fun r m1 => ∃ x3 : Int, r = some (vi x3) ∧ ((x3 = (0 : Int) → (Q (some (vi (-5))) m1)) ∧ (¬ x3 = (0 : Int) → (Q (some (vi (m1 1 0 4))) m1))))) : Y cX11_undo 1 RX11 (d + 1) sx 0 [some (vr 11 0)] [] mem Q := by
  refine a_aload_n dX11_undo_0 rfl rfl ?_
  refine gf_X11_54 dX11_undo_1 ?_
  refine a_aload_n dX11_undo_4 rfl rfl ?_
  refine gf_X11_10 dX11_undo_5 ?_
  refine iv_X11_305 dX11_undo_8 (Nat.le_of_ble_eq_true rfl) (MtX_mono h (fun r m1 hq => ?_))
  obtain ⟨x3, rfl, h2⟩ := hq
  refine ⟨x3, rfl, ?_⟩
  refine a_if_eq (tgt := 24) dX11_undo_11 (by decide) ⟨fun c4 => ?_, fun c4 => ?_⟩
  · refine a_bipush (k := (-5)) dX11_undo_24 (by decide) (n_lit (by decide)) ?_
    exact a_iret dX11_undo_26 (h2.1 c4)
  · refine a_aload_n dX11_undo_14 rfl rfl ?_
    refine gf_X11_54 dX11_undo_15 ?_
    refine gf_X11_308 (x := m1 1 0 4) rfl dX11_undo_18 ?_
    refine a_goto (tgt := 26) dX11_undo_21 (by decide) ?_
    exact a_iret dX11_undo_26 (h2.2 c4)
set_option maxRecDepth 10000 in
theorem sg_X11_redo_0 {d : Nat} {sx : Option (List Int)}  (mem : AMem) (Q : Option AV → AMem → Prop) (h : MtX yX1_doAgain cX1_doAgain 2 (some .boolean) d [vr 1 0, vr 2 0] mem (fun r m1 => ∃ x3 : Int, r = some (vi x3) ∧ ((x3 = (0 : Int) → (Q (some (vi (-5))) m1)) ∧ (¬ x3 = (0 : Int) → (Q (some (vi (w32 ((m1 1 0 5) - (m1 1 0 4))))) m1))))) : Y cX11_redo 1 RX11 (d + 1) sx 0 [some (vr 11 0)] [] mem Q := by
  refine a_aload_n dX11_redo_0 rfl rfl ?_
  refine gf_X11_54 dX11_redo_1 ?_
  refine a_aload_n dX11_redo_4 rfl rfl ?_
  refine gf_X11_10 dX11_redo_5 ?_
  refine iv_X11_311 dX11_redo_8 (Nat.le_of_ble_eq_true rfl) (MtX_mono h (fun r m1 hq => ?_))
  obtain ⟨x3, rfl, h2⟩ := hq
  refine ⟨x3, rfl, ?_⟩
  refine a_if_eq (tgt := 32) dX11_redo_11 (by decide) ⟨fun c4 => ?_, fun c4 => ?_⟩
  · refine a_bipush (k := (-5)) dX11_redo_32 (by decide) (n_lit (by decide)) ?_
    exact a_iret dX11_redo_34 (h2.1 c4)
  · refine a_aload_n dX11_redo_14 rfl rfl ?_
    refine gf_X11_54 dX11_redo_15 ?_
    refine gf_X11_314 (x := m1 1 0 5) rfl dX11_redo_18 ?_
    refine a_aload_n dX11_redo_21 rfl rfl ?_
    refine gf_X11_54 dX11_redo_22 ?_
    refine gf_X11_308 (x := m1 1 0 4) rfl dX11_redo_25 ?_
    refine a_isub dX11_redo_28 ?_
    refine a_goto (tgt := 34) dX11_redo_29 (by decide) ?_
    exact a_iret dX11_redo_34 (h2.2 c4)
set_option maxRecDepth 10000 in
theorem sg_X11_body_0 {d : Nat} {sx : Option (List Int)} (a1 : Int) (mem : AMem) (Q : Option AV → AMem → Prop) (h : (a1 < (0 : Int) → (Q (some (vi (-1))) mem)) ∧ (¬ a1 < (0 : Int) → ((a1 < (8 : Int) → (MtX yX0_isFull cX0_isFull 1 (some .boolean) d [vr 0 0] mem (fun r m3 => ∃ x5 : Int, r = some (vi x5) ∧ ((x5 = (0 : Int) → (MtX yX0_add cX0_add 2 (some .int) d [vr 0 0, vi a1] m3 (fun r m7 => ∃ x9 : Int, r = some (vi x9) ∧ (Q (some (vi x9)) m7)))) ∧ (¬ x5 = (0 : Int) → (Q (some (vi (-3))) m3)))))) ∧ (¬ a1 < (8 : Int) → (Q (some (vi (-1))) mem))))) : Y cX11_body 2 RX11 (d + 1) sx 0 [some (vr 11 0), some (vi a1)] [] mem Q := by
  refine a_iload_n dX11_body_0 rfl rfl ?_
  refine a_if_lt (tgt := 10) dX11_body_1 (by decide) ⟨fun c1 => ?_, fun c1 => ?_⟩
  · refine a_iconst (k := (-1)) dX11_body_10 (n_lit (by decide)) ?_
    exact a_iret dX11_body_11 (h.1 c1)
  · refine a_iload_n dX11_body_4 rfl rfl ?_
    refine a_bipush (k := 8) dX11_body_5 (by decide) (n_lit (by decide)) ?_
    refine a_icmp_lt (tgt := 12) dX11_body_7 (by decide) ⟨fun c2 => ?_, fun c2 => ?_⟩
    · refine a_aload_n dX11_body_12 rfl rfl ?_
      refine gf_X11_61 dX11_body_13 ?_
      refine iv_X11_317 dX11_body_16 (Nat.le_of_ble_eq_true rfl) (MtX_mono ((h.2 c1).1 c2) (fun r m3 hq => ?_))
      obtain ⟨x5, rfl, h4⟩ := hq
      refine ⟨x5, rfl, ?_⟩
      refine a_if_eq (tgt := 27) dX11_body_19 (by decide) ⟨fun c6 => ?_, fun c6 => ?_⟩
      · refine a_aload_n dX11_body_27 rfl rfl ?_
        refine gf_X11_61 dX11_body_28 ?_
        refine a_iload_n dX11_body_31 rfl rfl ?_
        refine iv_X11_318 dX11_body_32 (Nat.le_of_ble_eq_true rfl) (MtX_mono (h4.1 c6) (fun r m7 hq => ?_))
        obtain ⟨x9, rfl, h8⟩ := hq
        refine ⟨x9, rfl, ?_⟩
        exact a_iret dX11_body_35 h8
      · refine a_bipush (k := (-3)) dX11_body_22 (by decide) (n_lit (by decide)) ?_
        refine a_goto (tgt := 35) dX11_body_24 (by decide) ?_
        exact a_iret dX11_body_35 (h4.2 c6)
    · refine a_iconst (k := (-1)) dX11_body_10 (n_lit (by decide)) ?_
      exact a_iret dX11_body_11 ((h.2 c1).2 c2)
set_option maxRecDepth 10000 in
theorem sg_X11_act_0 {d : Nat} {sx : Option (List Int)} (a1 : Int) (a2 : Int) (a3 : Int) (mem : AMem) (Q : Option AV → AMem → Prop) (h : MtX yX0_knows cX0_knows 2 (some .boolean) d [vr 0 0, vi a1] (upM mem 0 0 3 0) (fun r m1 => ∃ x3 : Int, r = some (vi x3) ∧ ((x3 = (0 : Int) → (Q (some (vi 0)) m1)) ∧ (¬ x3 = (0 : Int) → ((a2 < (0 : Int) → (Q (some (vi 0)) m1)) ∧ (¬ a2 < (0 : Int) → ((a2 < (4 : Int) → (MtX yX0_own cX0_own 5 (some .int) d [vr 0 0, vi a1, vi a2, vi a3, vi 0] m1 (fun r m7 => ∃ x9 : Int, r = some (vi x9) ∧ (Q (some (vi x9)) m7)))) ∧ (¬ a2 < (4 : Int) → (Q (some (vi 0)) m1))))))))) : Y cX11_act 4 RX11 (d + 1) sx 0 [some (vr 11 0), some (vi a1), some (vi a2), some (vi a3)] [] mem Q := by
  refine a_aload_n dX11_act_0 rfl rfl ?_
  refine gf_X11_61 dX11_act_1 ?_
  refine a_iconst (k := 0) dX11_act_4 (n_lit (by decide)) ?_
  refine pf_X11_319 dX11_act_5 ?_
  refine a_aload_n dX11_act_8 rfl rfl ?_
  refine gf_X11_61 dX11_act_9 ?_
  refine a_iload_n dX11_act_12 rfl rfl ?_
  refine iv_X11_322 dX11_act_13 (Nat.le_of_ble_eq_true rfl) (MtX_mono h (fun r m1 hq => ?_))
  obtain ⟨x3, rfl, h2⟩ := hq
  refine ⟨x3, rfl, ?_⟩
  refine a_if_eq (tgt := 28) dX11_act_16 (by decide) ⟨fun c4 => ?_, fun c4 => ?_⟩
  · refine a_iconst (k := 0) dX11_act_28 (n_lit (by decide)) ?_
    exact a_iret dX11_act_29 (h2.1 c4)
  · refine a_iload_n dX11_act_19 rfl rfl ?_
    refine a_if_lt (tgt := 28) dX11_act_20 (by decide) ⟨fun c5 => ?_, fun c5 => ?_⟩
    · refine a_iconst (k := 0) dX11_act_28 (n_lit (by decide)) ?_
      exact a_iret dX11_act_29 ((h2.2 c4).1 c5)
    · refine a_iload_n dX11_act_23 rfl rfl ?_
      refine a_iconst (k := 4) dX11_act_24 (n_lit (by decide)) ?_
      refine a_icmp_lt (tgt := 30) dX11_act_25 (by decide) ⟨fun c6 => ?_, fun c6 => ?_⟩
      · refine a_aload_n dX11_act_30 rfl rfl ?_
        refine gf_X11_61 dX11_act_31 ?_
        refine a_iload_n dX11_act_34 rfl rfl ?_
        refine a_iload_n dX11_act_35 rfl rfl ?_
        refine a_iload_n dX11_act_36 rfl rfl ?_
        refine a_iconst (k := 0) dX11_act_37 (n_lit (by decide)) ?_
        refine iv_X11_324 dX11_act_38 (Nat.le_of_ble_eq_true rfl) (MtX_mono (((h2.2 c4).2 c5).1 c6) (fun r m7 hq => ?_))
        obtain ⟨x9, rfl, h8⟩ := hq
        refine ⟨x9, rfl, ?_⟩
        exact a_iret dX11_act_41 h8
      · refine a_iconst (k := 0) dX11_act_28 (n_lit (by decide)) ?_
        exact a_iret dX11_act_29 (((h2.2 c4).2 c5).2 c6)
set_option maxRecDepth 10000 in
theorem sg_X11_trace_0 {d : Nat} {sx : Option (List Int)} (a1 : Int) (mem : AMem) (Q : Option AV → AMem → Prop) (h : (a1 < (0 : Int) → (Q (some (vi (-1))) mem)) ∧ (¬ a1 < (0 : Int) → (MtX yX0_traced cX0_traced 1 (some .int) d [vr 0 0] mem (fun r m2 => ∃ x4 : Int, r = some (vi x4) ∧ ((a1 < x4 → ((0 ≤ a1 ∧ a1 < 24) ∧ (Q (some (vi (m2 101 0 a1))) m2))) ∧ (¬ a1 < x4 → (Q (some (vi (-1))) m2))))))) : Y cX11_trace 2 RX11 (d + 1) sx 0 [some (vr 11 0), some (vi a1)] [] mem Q := by
  refine a_iload_n dX11_trace_0 rfl rfl ?_
  refine a_if_lt (tgt := 15) dX11_trace_1 (by decide) ⟨fun c1 => ?_, fun c1 => ?_⟩
  · refine a_iconst (k := (-1)) dX11_trace_15 (n_lit (by decide)) ?_
    refine a_goto (tgt := 28) dX11_trace_16 (by decide) ?_
    exact a_iret dX11_trace_28 (h.1 c1)
  · refine a_iload_n dX11_trace_4 rfl rfl ?_
    refine a_aload_n dX11_trace_5 rfl rfl ?_
    refine gf_X11_61 dX11_trace_6 ?_
    refine iv_X11_328 dX11_trace_9 (Nat.le_of_ble_eq_true rfl) (MtX_mono (h.2 c1) (fun r m2 hq => ?_))
    obtain ⟨x4, rfl, h3⟩ := hq
    refine ⟨x4, rfl, ?_⟩
    refine a_icmp_lt (tgt := 19) dX11_trace_12 (by decide) ⟨fun c5 => ?_, fun c5 => ?_⟩
    · refine a_aload_n dX11_trace_19 rfl rfl ?_
      refine gf_X11_61 dX11_trace_20 ?_
      refine gf_X11_331 dX11_trace_23 ?_
      refine a_iload_n dX11_trace_26 rfl rfl ?_
      refine a_iald rfl rfl (by decide) rfl dX11_trace_27 ⟨(h3.1 c5).1, ?_⟩
      exact a_iret dX11_trace_28 (h3.1 c5).2
    · refine a_iconst (k := (-1)) dX11_trace_15 (n_lit (by decide)) ?_
      refine a_goto (tgt := 28) dX11_trace_16 (by decide) ?_
      exact a_iret dX11_trace_28 (h3.2 c5)
set_option maxRecDepth 10000 in
theorem sg_X11_keep_0 {d : Nat} {sx : Option (List Int)} (a1 : Int) (a2 : Int) (mem : AMem) (Q : Option AV → AMem → Prop) (h : MtX yX11_noSuchShelf cX11_noSuchShelf 1 (some .boolean) d [vi a1] mem (fun r m1 => ∃ x3 : Int, r = some (vi x3) ∧ ((x3 ≠ (0 : Int) → (Q (some (vi (-1))) m1)) ∧ (x3 = (0 : Int) → ((a2 = (-1 : Int) → ((0 ≤ a1 ∧ a1 < 6) ∧ (MtX yX10_holdBody cX10_holdBody 2 none d [vr 10 (Int.toNat a1), vi a2] m1 (fun r m6 => r = none ∧ (Q (some (vi 1)) m6))))) ∧ (¬ a2 = (-1 : Int) → (MtX yX0_knows cX0_knows 2 (some .boolean) d [vr 0 0, vi a2] m1 (fun r m8 => ∃ x10 : Int, r = some (vi x10) ∧ ((x10 ≠ (0 : Int) → ((0 ≤ a1 ∧ a1 < 6) ∧ (MtX yX10_holdBody cX10_holdBody 2 none d [vr 10 (Int.toNat a1), vi a2] m8 (fun r m12 => r = none ∧ (Q (some (vi 1)) m12))))) ∧ (x10 = (0 : Int) → (Q (some (vi (-1))) m8))))))))))) : Y cX11_keep 3 RX11 (d + 1) sx 0 [some (vr 11 0), some (vi a1), some (vi a2)] [] mem Q := by
  refine a_iload_n dX11_keep_0 rfl rfl ?_
  refine iv_X11_95 dX11_keep_1 (Nat.le_of_ble_eq_true rfl) (MtX_mono h (fun r m1 hq => ?_))
  obtain ⟨x3, rfl, h2⟩ := hq
  refine ⟨x3, rfl, ?_⟩
  refine a_if_ne (tgt := 23) dX11_keep_4 (by decide) ⟨fun c4 => ?_, fun c4 => ?_⟩
  · refine a_iconst (k := (-1)) dX11_keep_23 (n_lit (by decide)) ?_
    exact a_iret dX11_keep_24 (h2.1 c4)
  · refine a_iload_n dX11_keep_7 rfl rfl ?_
    refine a_iconst (k := (-1)) dX11_keep_8 (n_lit (by decide)) ?_
    refine a_icmp_eq (tgt := 25) dX11_keep_9 (by decide) ⟨fun c5 => ?_, fun c5 => ?_⟩
    · refine a_aload_n dX11_keep_25 rfl rfl ?_
      refine gf_X11_67 dX11_keep_26 ?_
      refine a_iload_n dX11_keep_29 rfl rfl ?_
      refine a_shelves dX11_keep_30 ⟨((h2.2 c4).1 c5).1, ?_⟩
      refine a_iload_n dX11_keep_31 rfl rfl ?_
      refine iv_X11_334 dX11_keep_32 (Nat.le_of_ble_eq_true rfl) (MtX_mono ((h2.2 c4).1 c5).2 (fun r m6 hq => ?_))
      obtain ⟨rfl, h7⟩ := hq
      refine ⟨rfl, ?_⟩
      refine a_iconst (k := 1) dX11_keep_35 (n_lit (by decide)) ?_
      exact a_iret dX11_keep_36 h7
    · refine a_aload_n dX11_keep_12 rfl rfl ?_
      refine gf_X11_61 dX11_keep_13 ?_
      refine a_iload_n dX11_keep_16 rfl rfl ?_
      refine iv_X11_322 dX11_keep_17 (Nat.le_of_ble_eq_true rfl) (MtX_mono ((h2.2 c4).2 c5) (fun r m8 hq => ?_))
      obtain ⟨x10, rfl, h9⟩ := hq
      refine ⟨x10, rfl, ?_⟩
      refine a_if_ne (tgt := 25) dX11_keep_20 (by decide) ⟨fun c11 => ?_, fun c11 => ?_⟩
      · refine a_aload_n dX11_keep_25 rfl rfl ?_
        refine gf_X11_67 dX11_keep_26 ?_
        refine a_iload_n dX11_keep_29 rfl rfl ?_
        refine a_shelves dX11_keep_30 ⟨(h9.1 c11).1, ?_⟩
        refine a_iload_n dX11_keep_31 rfl rfl ?_
        refine iv_X11_334 dX11_keep_32 (Nat.le_of_ble_eq_true rfl) (MtX_mono (h9.1 c11).2 (fun r m12 hq => ?_))
        obtain ⟨rfl, h13⟩ := hq
        refine ⟨rfl, ?_⟩
        refine a_iconst (k := 1) dX11_keep_35 (n_lit (by decide)) ?_
        exact a_iret dX11_keep_36 h13
      · refine a_iconst (k := (-1)) dX11_keep_23 (n_lit (by decide)) ?_
        exact a_iret dX11_keep_24 (h9.2 c11)
set_option maxRecDepth 10000 in
theorem sg_X11_row_0 {d : Nat} {sx : Option (List Int)} (a1 : Int) (a2 : Int) (a3 : Int) (mem : AMem) (Q : Option AV → AMem → Prop) (h : MtX yX11_noSuchShelf cX11_noSuchShelf 1 (some .boolean) d [vi a1] mem (fun r m1 => ∃ x3 : Int, r = some (vi x3) ∧ ((x3 ≠ (0 : Int) → (Q (some (vi (-1))) m1)) ∧ (x3 = (0 : Int) → ((a2 < (0 : Int) → (Q (some (vi (-1))) m1)) ∧ (¬ a2 < (0 : Int) → (((4 : Int) < a2 → (Q (some (vi (-1))) m1)) ∧ (¬ (4 : Int) < a2 → ((a3 ≤ (60 : Int) → (((0 : Int) ≤ a3 → ((0 ≤ a1 ∧ a1 < 6) ∧ (MtX yX10_holdRow cX10_holdRow 3 none d [vr 10 (Int.toNat a1), vi a2, vi a3] m1 (fun r m9 => r = none ∧ (Q (some (vi 1)) m9))))) ∧ (¬ (0 : Int) ≤ a3 → (Q (some (vi (-14))) m1)))) ∧ (¬ a3 ≤ (60 : Int) → (Q (some (vi (-1))) m1))))))))))) : Y cX11_row 4 RX11 (d + 1) sx 0 [some (vr 11 0), some (vi a1), some (vi a2), some (vi a3)] [] mem Q := by
  refine a_iload_n dX11_row_0 rfl rfl ?_
  refine iv_X11_95 dX11_row_1 (Nat.le_of_ble_eq_true rfl) (MtX_mono h (fun r m1 hq => ?_))
  obtain ⟨x3, rfl, h2⟩ := hq
  refine ⟨x3, rfl, ?_⟩
  refine a_if_ne (tgt := 22) dX11_row_4 (by decide) ⟨fun c4 => ?_, fun c4 => ?_⟩
  · refine a_iconst (k := (-1)) dX11_row_22 (n_lit (by decide)) ?_
    exact a_iret dX11_row_23 (h2.1 c4)
  · refine a_iload_n dX11_row_7 rfl rfl ?_
    refine a_if_lt (tgt := 22) dX11_row_8 (by decide) ⟨fun c5 => ?_, fun c5 => ?_⟩
    · refine a_iconst (k := (-1)) dX11_row_22 (n_lit (by decide)) ?_
      exact a_iret dX11_row_23 ((h2.2 c4).1 c5)
    · refine a_iload_n dX11_row_11 rfl rfl ?_
      refine a_iconst (k := 4) dX11_row_12 (n_lit (by decide)) ?_
      refine a_icmp_gt (tgt := 22) dX11_row_13 (by decide) ⟨fun c6 => ?_, fun c6 => ?_⟩
      · refine a_iconst (k := (-1)) dX11_row_22 (n_lit (by decide)) ?_
        exact a_iret dX11_row_23 (((h2.2 c4).2 c5).1 c6)
      · refine a_iload_n dX11_row_16 rfl rfl ?_
        refine a_bipush (k := 60) dX11_row_17 (by decide) (n_lit (by decide)) ?_
        refine a_icmp_le (tgt := 24) dX11_row_19 (by decide) ⟨fun c7 => ?_, fun c7 => ?_⟩
        · refine a_iload_n dX11_row_24 rfl rfl ?_
          refine a_if_ge (tgt := 31) dX11_row_25 (by decide) ⟨fun c8 => ?_, fun c8 => ?_⟩
          · refine a_aload_n dX11_row_31 rfl rfl ?_
            refine gf_X11_67 dX11_row_32 ?_
            refine a_iload_n dX11_row_35 rfl rfl ?_
            refine a_shelves dX11_row_36 ⟨(((((h2.2 c4).2 c5).2 c6).1 c7).1 c8).1, ?_⟩
            refine a_iload_n dX11_row_37 rfl rfl ?_
            refine a_iload_n dX11_row_38 rfl rfl ?_
            refine iv_X11_337 dX11_row_39 (Nat.le_of_ble_eq_true rfl) (MtX_mono (((((h2.2 c4).2 c5).2 c6).1 c7).1 c8).2 (fun r m9 hq => ?_))
            obtain ⟨rfl, h10⟩ := hq
            refine ⟨rfl, ?_⟩
            refine a_iconst (k := 1) dX11_row_42 (n_lit (by decide)) ?_
            exact a_iret dX11_row_43 h10
          · refine a_bipush (k := (-14)) dX11_row_28 (by decide) (n_lit (by decide)) ?_
            exact a_iret dX11_row_30 (((((h2.2 c4).2 c5).2 c6).1 c7).2 c8)
        · refine a_iconst (k := (-1)) dX11_row_22 (n_lit (by decide)) ?_
          exact a_iret dX11_row_23 ((((h2.2 c4).2 c5).2 c6).2 c7)
set_option maxRecDepth 10000 in
theorem sg_X11_put_0 {d : Nat} {sx : Option (List Int)} (a1 : Int) (a2 : Int) (a3 : Int) (mem : AMem) (Q : Option AV → AMem → Prop) (h : MtX yX11_refusalOfElement cX11_refusalOfElement 3 (some .int) d [vr 11 0, vi a1, vi a2] mem (fun r m1 => ∃ x3 : Int, r = some (vi x3) ∧ ((x3 = (0 : Int) → ((0 ≤ a1 ∧ a1 < 6) ∧ (MtX yX10_store cX10_store 4 none d [vr 10 (Int.toNat a1), vi a2, vl a3] m1 (fun r m5 => r = none ∧ (Q (some (vi 1)) m5))))) ∧ (¬ x3 = (0 : Int) → (Q (some (vi x3)) m1))))) : Y cX11_put 6 RX11 (d + 1) sx 0 [some (vr 11 0), some (vi a1), some (vi a2), some (vl a3), none, none] [] mem Q := by
  refine a_aload_n dX11_put_0 rfl rfl ?_
  refine a_iload_n dX11_put_1 rfl rfl ?_
  refine a_iload_n dX11_put_2 rfl rfl ?_
  refine iv_X11_341 dX11_put_3 (Nat.le_of_ble_eq_true rfl) (MtX_mono h (fun r m1 hq => ?_))
  obtain ⟨x3, rfl, h2⟩ := hq
  refine ⟨x3, rfl, ?_⟩
  refine a_istore dX11_put_6 (by decide) rfl ?_
  refine a_iload dX11_put_8 rfl ?_
  refine a_if_eq (tgt := 16) dX11_put_10 (by decide) ⟨fun c4 => ?_, fun c4 => ?_⟩
  · refine a_aload_n dX11_put_16 rfl rfl ?_
    refine gf_X11_67 dX11_put_17 ?_
    refine a_iload_n dX11_put_20 rfl rfl ?_
    refine a_shelves dX11_put_21 ⟨(h2.1 c4).1, ?_⟩
    refine a_iload_n dX11_put_22 rfl rfl ?_
    refine a_lload_n dX11_put_23 rfl rfl ?_
    refine iv_X11_344 dX11_put_24 (Nat.le_of_ble_eq_true rfl) (MtX_mono (h2.1 c4).2 (fun r m5 hq => ?_))
    obtain ⟨rfl, h6⟩ := hq
    refine ⟨rfl, ?_⟩
    refine a_iconst (k := 1) dX11_put_27 (n_lit (by decide)) ?_
    exact a_iret dX11_put_28 h6
  · refine a_iload dX11_put_13 rfl ?_
    exact a_iret dX11_put_15 (h2.2 c4)
set_option maxRecDepth 10000 in
theorem sg_X11_element_0 {d : Nat} {sx : Option (List Int)} (a1 : Int) (a2 : Int) (mem : AMem) (Q : Option AV → AMem → Prop) (h : MtX yX11_refusalOfElement cX11_refusalOfElement 3 (some .int) d [vr 11 0, vi a1, vi a2] mem (fun r m1 => ∃ x3 : Int, r = some (vi x3) ∧ ((x3 = (0 : Int) → ((0 ≤ a1 ∧ a1 < 6) ∧ ((0 ≤ a2 ∧ a2 < 60) ∧ (Q (some (vl (m1 1100 (Int.toNat a1) a2))) m1)))) ∧ (¬ x3 = (0 : Int) → (Q (some (vl (-9223372036854775808))) m1))))) : Y cX11_element 3 RX11 (d + 1) sx 0 [some (vr 11 0), some (vi a1), some (vi a2)] [] mem Q := by
  refine a_aload_n dX11_element_0 rfl rfl ?_
  refine a_iload_n dX11_element_1 rfl rfl ?_
  refine a_iload_n dX11_element_2 rfl rfl ?_
  refine iv_X11_341 dX11_element_3 (Nat.le_of_ble_eq_true rfl) (MtX_mono h (fun r m1 hq => ?_))
  obtain ⟨x3, rfl, h2⟩ := hq
  refine ⟨x3, rfl, ?_⟩
  refine a_if_eq (tgt := 15) dX11_element_6 (by decide) ⟨fun c4 => ?_, fun c4 => ?_⟩
  · refine a_aload_n dX11_element_15 rfl rfl ?_
    refine gf_X11_67 dX11_element_16 ?_
    refine a_iload_n dX11_element_19 rfl rfl ?_
    refine a_shelves dX11_element_20 ⟨(h2.1 c4).1, ?_⟩
    refine gf_X11_352 dX11_element_21 ?_
    refine a_iload_n dX11_element_24 rfl rfl ?_
    refine a_lald rfl rfl (by decide) rfl dX11_element_25 ⟨(h2.1 c4).2.1, ?_⟩
    exact a_lret dX11_element_26 (h2.1 c4).2.2
  · refine a_ldc2 (k := (-9223372036854775808)) cl_X11_350 (n_litL (by decide)) dX11_element_9 ?_
    refine a_goto (tgt := 26) dX11_element_12 (by decide) ?_
    exact a_lret dX11_element_26 (h2.2 c4)
set_option maxRecDepth 10000 in
theorem sg_X11_shift_0 {d : Nat} {sx : Option (List Int)} (a1 : Int) (a2 : Int) (a3 : Int) (a4 : Int) (a5 : Int) (mem : AMem) (Q : Option AV → AMem → Prop) (h : MtX yX11_noSuchShelf cX11_noSuchShelf 1 (some .boolean) d [vi a1] mem (fun r m1 => ∃ x3 : Int, r = some (vi x3) ∧ ((x3 ≠ (0 : Int) → (Q (some (vi (-1))) m1)) ∧ (x3 = (0 : Int) → (MtX yX11_noSuchShelf cX11_noSuchShelf 1 (some .boolean) d [vi a3] m1 (fun r m5 => ∃ x7 : Int, r = some (vi x7) ∧ ((x7 = (0 : Int) → ((0 ≤ a1 ∧ a1 < 6) ∧ ((0 ≤ a3 ∧ a3 < 6) ∧ (MtX yX10_isEmpty cX10_isEmpty 1 (some .boolean) d [vr 10 (Int.toNat a1)] m5 (fun r m9 => ∃ x11 : Int, r = some (vi x11) ∧ ((x11 ≠ (0 : Int) → (Q (some (vi (-11))) m9)) ∧ (x11 = (0 : Int) → (MtX yX10_isEmpty cX10_isEmpty 1 (some .boolean) d [vr 10 (Int.toNat a3)] m9 (fun r m13 => ∃ x15 : Int, r = some (vi x15) ∧ ((x15 = (0 : Int) → (MtX yX10_holdsRow cX10_holdsRow 1 (some .boolean) d [vr 10 (Int.toNat a1)] m13 (fun r m17 => ∃ x19 : Int, r = some (vi x19) ∧ ((x19 = (0 : Int) → (Q (some (vi (-12))) m17)) ∧ (¬ x19 = (0 : Int) → (MtX yX10_holdsRow cX10_holdsRow 1 (some .boolean) d [vr 10 (Int.toNat a3)] m17 (fun r m21 => ∃ x23 : Int, r = some (vi x23) ∧ ((x23 = (0 : Int) → (Q (some (vi (-12))) m21)) ∧ (¬ x23 = (0 : Int) → (((m21 10 (Int.toNat a1) 2) = (m21 10 (Int.toNat a3) 2) → (MtX yX10_reaches cX10_reaches 3 (some .boolean) d [vr 10 (Int.toNat a1), vi a2, vi a5] m21 (fun r m26 => ∃ x28 : Int, r = some (vi x28) ∧ ((x28 = (0 : Int) → (Q (some (vi (-13))) m26)) ∧ (¬ x28 = (0 : Int) → (MtX yX10_reaches cX10_reaches 3 (some .boolean) d [vr 10 (Int.toNat a3), vi a4, vi a5] m26 (fun r m30 => ∃ x32 : Int, r = some (vi x32) ∧ ((x32 ≠ (0 : Int) → ((0 ≤ a2 ∧ 0 ≤ a4 ∧ 0 ≤ a5 ∧ a2 + a5 ≤ 60 ∧ a4 + a5 ≤ 60) ∧ (Q (some (vi a5)) (cpM m30 1100 (Int.toNat a3) a4 1100 (Int.toNat a1) a2 a5)))) ∧ (x32 = (0 : Int) → (Q (some (vi (-13))) m30)))))))))) ∧ (¬ (m21 10 (Int.toNat a1) 2) = (m21 10 (Int.toNat a3) 2) → (Q (some (vi (-12))) m21)))))))))))) ∧ (¬ x15 = (0 : Int) → (Q (some (vi (-11))) m13)))))))))))) ∧ (¬ x7 = (0 : Int) → (Q (some (vi (-1))) m5))))))))) : Y cX11_shift 8 RX11 (d + 1) sx 0 [some (vr 11 0), some (vi a1), some (vi a2), some (vi a3), some (vi a4), some (vi a5), none, none] [] mem Q := by
  refine a_iload_n dX11_shift_0 rfl rfl ?_
  refine iv_X11_95 dX11_shift_1 (Nat.le_of_ble_eq_true rfl) (MtX_mono h (fun r m1 hq => ?_))
  obtain ⟨x3, rfl, h2⟩ := hq
  refine ⟨x3, rfl, ?_⟩
  refine a_if_ne (tgt := 14) dX11_shift_4 (by decide) ⟨fun c4 => ?_, fun c4 => ?_⟩
  · refine a_iconst (k := (-1)) dX11_shift_14 (n_lit (by decide)) ?_
    exact a_iret dX11_shift_15 (h2.1 c4)
  · refine a_iload_n dX11_shift_7 rfl rfl ?_
    refine iv_X11_95 dX11_shift_8 (Nat.le_of_ble_eq_true rfl) (MtX_mono (h2.2 c4) (fun r m5 hq => ?_))
    obtain ⟨x7, rfl, h6⟩ := hq
    refine ⟨x7, rfl, ?_⟩
    refine a_if_eq (tgt := 16) dX11_shift_11 (by decide) ⟨fun c8 => ?_, fun c8 => ?_⟩
    · refine a_aload_n dX11_shift_16 rfl rfl ?_
      refine gf_X11_67 dX11_shift_17 ?_
      refine a_iload_n dX11_shift_20 rfl rfl ?_
      refine a_shelves dX11_shift_21 ⟨(h6.1 c8).1, ?_⟩
      refine a_astore dX11_shift_22 (by decide) rfl ?_
      refine a_aload_n dX11_shift_24 rfl rfl ?_
      refine gf_X11_67 dX11_shift_25 ?_
      refine a_iload_n dX11_shift_28 rfl rfl ?_
      refine a_shelves dX11_shift_29 ⟨(h6.1 c8).2.1, ?_⟩
      refine a_astore dX11_shift_30 (by decide) rfl ?_
      refine a_aload dX11_shift_32 rfl ?_
      refine iv_X11_99 dX11_shift_34 (Nat.le_of_ble_eq_true rfl) (MtX_mono (h6.1 c8).2.2 (fun r m9 hq => ?_))
      obtain ⟨x11, rfl, h10⟩ := hq
      refine ⟨x11, rfl, ?_⟩
      refine a_if_ne (tgt := 48) dX11_shift_37 (by decide) ⟨fun c12 => ?_, fun c12 => ?_⟩
      · refine a_bipush (k := (-11)) dX11_shift_48 (by decide) (n_lit (by decide)) ?_
        exact a_iret dX11_shift_50 (h10.1 c12)
      · refine a_aload dX11_shift_40 rfl ?_
        refine iv_X11_99 dX11_shift_42 (Nat.le_of_ble_eq_true rfl) (MtX_mono (h10.2 c12) (fun r m13 hq => ?_))
        obtain ⟨x15, rfl, h14⟩ := hq
        refine ⟨x15, rfl, ?_⟩
        refine a_if_eq (tgt := 51) dX11_shift_45 (by decide) ⟨fun c16 => ?_, fun c16 => ?_⟩
        · refine a_aload dX11_shift_51 rfl ?_
          refine iv_X11_356 dX11_shift_53 (Nat.le_of_ble_eq_true rfl) (MtX_mono (h14.1 c16) (fun r m17 hq => ?_))
          obtain ⟨x19, rfl, h18⟩ := hq
          refine ⟨x19, rfl, ?_⟩
          refine a_if_eq (tgt := 80) dX11_shift_56 (by decide) ⟨fun c20 => ?_, fun c20 => ?_⟩
          · refine a_bipush (k := (-12)) dX11_shift_80 (by decide) (n_lit (by decide)) ?_
            exact a_iret dX11_shift_82 (h18.1 c20)
          · refine a_aload dX11_shift_59 rfl ?_
            refine iv_X11_356 dX11_shift_61 (Nat.le_of_ble_eq_true rfl) (MtX_mono (h18.2 c20) (fun r m21 hq => ?_))
            obtain ⟨x23, rfl, h22⟩ := hq
            refine ⟨x23, rfl, ?_⟩
            refine a_if_eq (tgt := 80) dX11_shift_64 (by decide) ⟨fun c24 => ?_, fun c24 => ?_⟩
            · refine a_bipush (k := (-12)) dX11_shift_80 (by decide) (n_lit (by decide)) ?_
              exact a_iret dX11_shift_82 (h22.1 c24)
            · refine a_aload dX11_shift_67 rfl ?_
              refine gf_X11_359 (x := m21 10 (Int.toNat a1) 2) rfl dX11_shift_69 ?_
              refine a_aload dX11_shift_72 rfl ?_
              refine gf_X11_359 (x := m21 10 (Int.toNat a3) 2) rfl dX11_shift_74 ?_
              refine a_icmp_eq (tgt := 83) dX11_shift_77 (by decide) ⟨fun c25 => ?_, fun c25 => ?_⟩
              · refine a_aload dX11_shift_83 rfl ?_
                refine a_iload_n dX11_shift_85 rfl rfl ?_
                refine a_iload dX11_shift_86 rfl ?_
                refine iv_X11_362 dX11_shift_88 (Nat.le_of_ble_eq_true rfl) (MtX_mono ((h22.2 c24).1 c25) (fun r m26 hq => ?_))
                obtain ⟨x28, rfl, h27⟩ := hq
                refine ⟨x28, rfl, ?_⟩
                refine a_if_eq (tgt := 106) dX11_shift_91 (by decide) ⟨fun c29 => ?_, fun c29 => ?_⟩
                · refine a_bipush (k := (-13)) dX11_shift_106 (by decide) (n_lit (by decide)) ?_
                  exact a_iret dX11_shift_108 (h27.1 c29)
                · refine a_aload dX11_shift_94 rfl ?_
                  refine a_iload dX11_shift_96 rfl ?_
                  refine a_iload dX11_shift_98 rfl ?_
                  refine iv_X11_362 dX11_shift_100 (Nat.le_of_ble_eq_true rfl) (MtX_mono (h27.2 c29) (fun r m30 hq => ?_))
                  obtain ⟨x32, rfl, h31⟩ := hq
                  refine ⟨x32, rfl, ?_⟩
                  refine a_if_ne (tgt := 109) dX11_shift_103 (by decide) ⟨fun c33 => ?_, fun c33 => ?_⟩
                  · refine a_aload dX11_shift_109 rfl ?_
                    refine gf_X11_352 dX11_shift_111 ?_
                    refine a_iload_n dX11_shift_114 rfl rfl ?_
                    refine a_aload dX11_shift_115 rfl ?_
                    refine gf_X11_352 dX11_shift_117 ?_
                    refine a_iload dX11_shift_120 rfl ?_
                    refine a_iload dX11_shift_122 rfl ?_
                    refine a_copyL rfl rfl (by decide) rfl rfl (by decide) (by decide) rfl rfl ml_X11_365 mt_ac ms_ac mn_ac (by omega) (Nat.le_of_ble_eq_true rfl) dX11_shift_124 ⟨(h31.1 c33).1, ?_⟩
                    refine a_iload dX11_shift_127 rfl ?_
                    exact a_iret dX11_shift_129 (h31.1 c33).2
                  · refine a_bipush (k := (-13)) dX11_shift_106 (by decide) (n_lit (by decide)) ?_
                    exact a_iret dX11_shift_108 (h31.2 c33)
              · refine a_bipush (k := (-12)) dX11_shift_80 (by decide) (n_lit (by decide)) ?_
                exact a_iret dX11_shift_82 ((h22.2 c24).2 c25)
        · refine a_bipush (k := (-11)) dX11_shift_48 (by decide) (n_lit (by decide)) ?_
          exact a_iret dX11_shift_50 (h14.2 c16)
    · refine a_iconst (k := (-1)) dX11_shift_14 (n_lit (by decide)) ?_
      exact a_iret dX11_shift_15 (h6.2 c8)
set_option maxRecDepth 10000 in
theorem sg_X11_taken_0 {d : Nat} {sx : Option (List Int)} (a1 : Int) (a2 : Int) (mem : AMem) (Q : Option AV → AMem → Prop) (h : MtX yX11_noSuchShelf cX11_noSuchShelf 1 (some .boolean) d [vi a1] mem (fun r m1 => ∃ x3 : Int, r = some (vi x3) ∧ ((x3 ≠ (0 : Int) → (Q (some (vi (-1))) m1)) ∧ (x3 = (0 : Int) → ((a2 < (0 : Int) → (Q (some (vi (-1))) m1)) ∧ (¬ a2 < (0 : Int) → ((a2 < (8 : Int) → ((0 ≤ a1 ∧ a1 < 6) ∧ (MtX yX10_isEmpty cX10_isEmpty 1 (some .boolean) d [vr 10 (Int.toNat a1)] m1 (fun r m7 => ∃ x9 : Int, r = some (vi x9) ∧ ((x9 = (0 : Int) → (MtX yX10_holdsRow cX10_holdsRow 1 (some .boolean) d [vr 10 (Int.toNat a1)] m7 (fun r m11 => ∃ x13 : Int, r = some (vi x13) ∧ ((x13 ≠ (0 : Int) → (Q (some (vi (-12))) m11)) ∧ (x13 = (0 : Int) → (MtX yX0_knows cX0_knows 2 (some .boolean) d [vr 0 0, vi (m11 10 (Int.toNat a1) 3)] m11 (fun r m15 => ∃ x17 : Int, r = some (vi x17) ∧ ((x17 ≠ (0 : Int) → ((0 ≤ (m15 10 (Int.toNat a1) 3) ∧ (m15 10 (Int.toNat a1) 3) < 50) ∧ (MtX yX0_isUnder cX0_isUnder 4 (some .boolean) d [vi (m15 100 0 (m15 10 (Int.toNat a1) 3)), vi a2] m15 (fun r m19 => ∃ x21 : Int, r = some (vi x21) ∧ ((x21 = (0 : Int) → (Q (some (vi (-12))) m19)) ∧ (¬ x21 = (0 : Int) → (Q (some (vi (m15 100 0 (m15 10 (Int.toNat a1) 3)))) m19))))))) ∧ (x17 = (0 : Int) → (Q (some (vi (-12))) m15)))))))))) ∧ (¬ x9 = (0 : Int) → (Q (some (vi (-11))) m7))))))) ∧ (¬ a2 < (8 : Int) → (Q (some (vi (-1))) m1))))))))) : Y cX11_taken 5 RX11 (d + 1) sx 0 [some (vr 11 0), some (vi a1), some (vi a2), none, none] [] mem Q := by
  refine a_iload_n dX11_taken_0 rfl rfl ?_
  refine iv_X11_95 dX11_taken_1 (Nat.le_of_ble_eq_true rfl) (MtX_mono h (fun r m1 hq => ?_))
  obtain ⟨x3, rfl, h2⟩ := hq
  refine ⟨x3, rfl, ?_⟩
  refine a_if_ne (tgt := 17) dX11_taken_4 (by decide) ⟨fun c4 => ?_, fun c4 => ?_⟩
  · refine a_iconst (k := (-1)) dX11_taken_17 (n_lit (by decide)) ?_
    exact a_iret dX11_taken_18 (h2.1 c4)
  · refine a_iload_n dX11_taken_7 rfl rfl ?_
    refine a_if_lt (tgt := 17) dX11_taken_8 (by decide) ⟨fun c5 => ?_, fun c5 => ?_⟩
    · refine a_iconst (k := (-1)) dX11_taken_17 (n_lit (by decide)) ?_
      exact a_iret dX11_taken_18 ((h2.2 c4).1 c5)
    · refine a_iload_n dX11_taken_11 rfl rfl ?_
      refine a_bipush (k := 8) dX11_taken_12 (by decide) (n_lit (by decide)) ?_
      refine a_icmp_lt (tgt := 19) dX11_taken_14 (by decide) ⟨fun c6 => ?_, fun c6 => ?_⟩
      · refine a_aload_n dX11_taken_19 rfl rfl ?_
        refine gf_X11_67 dX11_taken_20 ?_
        refine a_iload_n dX11_taken_23 rfl rfl ?_
        refine a_shelves dX11_taken_24 ⟨(((h2.2 c4).2 c5).1 c6).1, ?_⟩
        refine a_astore_n dX11_taken_25 rfl (by decide) rfl ?_
        refine a_aload_n dX11_taken_26 rfl rfl ?_
        refine iv_X11_99 dX11_taken_27 (Nat.le_of_ble_eq_true rfl) (MtX_mono (((h2.2 c4).2 c5).1 c6).2 (fun r m7 hq => ?_))
        obtain ⟨x9, rfl, h8⟩ := hq
        refine ⟨x9, rfl, ?_⟩
        refine a_if_eq (tgt := 36) dX11_taken_30 (by decide) ⟨fun c10 => ?_, fun c10 => ?_⟩
        · refine a_aload_n dX11_taken_36 rfl rfl ?_
          refine iv_X11_356 dX11_taken_37 (Nat.le_of_ble_eq_true rfl) (MtX_mono (h8.1 c10) (fun r m11 hq => ?_))
          obtain ⟨x13, rfl, h12⟩ := hq
          refine ⟨x13, rfl, ?_⟩
          refine a_if_ne (tgt := 57) dX11_taken_40 (by decide) ⟨fun c14 => ?_, fun c14 => ?_⟩
          · refine a_bipush (k := (-12)) dX11_taken_57 (by decide) (n_lit (by decide)) ?_
            exact a_iret dX11_taken_59 (h12.1 c14)
          · refine a_aload_n dX11_taken_43 rfl rfl ?_
            refine gf_X11_61 dX11_taken_44 ?_
            refine a_aload_n dX11_taken_47 rfl rfl ?_
            refine gf_X11_371 (x := m11 10 (Int.toNat a1) 3) rfl dX11_taken_48 ?_
            refine iv_X11_322 dX11_taken_51 (Nat.le_of_ble_eq_true rfl) (MtX_mono (h12.2 c14) (fun r m15 hq => ?_))
            obtain ⟨x17, rfl, h16⟩ := hq
            refine ⟨x17, rfl, ?_⟩
            refine a_if_ne (tgt := 60) dX11_taken_54 (by decide) ⟨fun c18 => ?_, fun c18 => ?_⟩
            · refine a_aload_n dX11_taken_60 rfl rfl ?_
              refine gf_X11_61 dX11_taken_61 ?_
              refine gf_X11_374 dX11_taken_64 ?_
              refine a_aload_n dX11_taken_67 rfl rfl ?_
              refine gf_X11_371 (x := m15 10 (Int.toNat a1) 3) rfl dX11_taken_68 ?_
              refine a_iald rfl rfl (by decide) rfl dX11_taken_71 ⟨(h16.1 c18).1, ?_⟩
              refine a_istore dX11_taken_72 (by decide) rfl ?_
              refine a_iload dX11_taken_74 rfl ?_
              refine a_iload_n dX11_taken_76 rfl rfl ?_
              refine iv_X11_377 dX11_taken_77 (Nat.le_of_ble_eq_true rfl) (MtX_mono (h16.1 c18).2 (fun r m19 hq => ?_))
              obtain ⟨x21, rfl, h20⟩ := hq
              refine ⟨x21, rfl, ?_⟩
              refine a_if_eq (tgt := 88) dX11_taken_80 (by decide) ⟨fun c22 => ?_, fun c22 => ?_⟩
              · refine a_bipush (k := (-12)) dX11_taken_88 (by decide) (n_lit (by decide)) ?_
                exact a_iret dX11_taken_90 (h20.1 c22)
              · refine a_iload dX11_taken_83 rfl ?_
                refine a_goto (tgt := 90) dX11_taken_85 (by decide) ?_
                exact a_iret dX11_taken_90 (h20.2 c22)
            · refine a_bipush (k := (-12)) dX11_taken_57 (by decide) (n_lit (by decide)) ?_
              exact a_iret dX11_taken_59 (h16.2 c18)
        · refine a_bipush (k := (-11)) dX11_taken_33 (by decide) (n_lit (by decide)) ?_
          exact a_iret dX11_taken_35 (h8.2 c10)
      · refine a_iconst (k := (-1)) dX11_taken_17 (n_lit (by decide)) ?_
        exact a_iret dX11_taken_18 (((h2.2 c4).2 c5).2 c6)
set_option maxRecDepth 10000 in
theorem sg_X11_count_0 {d : Nat} {sx : Option (List Int)} (a1 : Int) (mem : AMem) (Q : Option AV → AMem → Prop) (h : (a1 = 0 → (Q (some (vi (mem 2 0 5))) mem)) ∧ (a1 = 1 → (MtX yJ6_bitCount_0f7a4 cJ6_bitCount_0f7a4 1 (some .int) d [vi (mem 2 0 4)] mem (fun r m2 => ∃ x4 : Int, r = some (vi x4) ∧ (Q (some (vi x4)) m2)))) ∧ (a1 = 2 → (Q (some (vi (mem 4 0 1))) mem)) ∧ (a1 = 3 → (Q (some (vi (mem 1 0 4))) mem)) ∧ (a1 = 4 → (Q (some (vi (mem 0 0 2))) mem)) ∧ (a1 = 5 → (Q (some (vi (mem 0 0 3))) mem)) ∧ (¬ (0 ≤ a1 ∧ a1 ≤ 5) → (Q (some (vi (-1))) mem))) : Y cX11_count 2 RX11 (d + 1) sx 0 [some (vr 11 0), some (vi a1)] [] mem Q := by
  refine a_iload_n dX11_count_0 rfl rfl ?_
  refine a_table dX11_count_1 (fun z => if z = 0 then 40 else if z = 1 then 48 else if z = 2 then 59 else if z = 3 then 67 else if z = 4 then 75 else if z = 5 then 83 else 0) 91 (by decide) (by decide) (by decide) ⟨fun e1a e1b => ?_, fun e5 => ?_⟩
  · rcases (by omega : a1 = 0 ∨ a1 = 1 ∨ a1 = 2 ∨ a1 = 3 ∨ a1 = 4 ∨ a1 = 5) with e1 | e1 | e1 | e1 | e1 | e1
    · refine Y_at (pc := 40) (by rw [e1]; rfl) ?_
      refine a_aload_n dX11_count_40 rfl rfl ?_
      refine gf_X11_10 dX11_count_41 ?_
      refine gf_X11_190 (x := mem 2 0 5) rfl dX11_count_44 ?_
      exact a_iret dX11_count_47 (h.1 e1)
    · refine Y_at (pc := 48) (by rw [e1]; rfl) ?_
      refine a_aload_n dX11_count_48 rfl rfl ?_
      refine gf_X11_10 dX11_count_49 ?_
      refine gf_X11_286 (x := mem 2 0 4) rfl dX11_count_52 ?_
      refine iv_X11_287 dX11_count_55 (Nat.le_of_ble_eq_true rfl) (MtX_mono (h.2.1 e1) (fun r m2 hq => ?_))
      obtain ⟨x4, rfl, h3⟩ := hq
      refine ⟨x4, rfl, ?_⟩
      exact a_iret dX11_count_58 h3
    · refine Y_at (pc := 59) (by rw [e1]; rfl) ?_
      refine a_aload_n dX11_count_59 rfl rfl ?_
      refine gf_X11_74 dX11_count_60 ?_
      refine gf_X11_380 (x := mem 4 0 1) rfl dX11_count_63 ?_
      exact a_iret dX11_count_66 (h.2.2.1 e1)
    · refine Y_at (pc := 67) (by rw [e1]; rfl) ?_
      refine a_aload_n dX11_count_67 rfl rfl ?_
      refine gf_X11_54 dX11_count_68 ?_
      refine gf_X11_308 (x := mem 1 0 4) rfl dX11_count_71 ?_
      exact a_iret dX11_count_74 (h.2.2.2.1 e1)
    · refine Y_at (pc := 75) (by rw [e1]; rfl) ?_
      refine a_aload_n dX11_count_75 rfl rfl ?_
      refine gf_X11_61 dX11_count_76 ?_
      refine gf_X11_383 (x := mem 0 0 2) rfl dX11_count_79 ?_
      exact a_iret dX11_count_82 (h.2.2.2.2.1 e1)
    · refine Y_at (pc := 83) (by rw [e1]; rfl) ?_
      refine a_aload_n dX11_count_83 rfl rfl ?_
      refine gf_X11_61 dX11_count_84 ?_
      refine gf_X11_319 (x := mem 0 0 3) rfl dX11_count_87 ?_
      exact a_iret dX11_count_90 (h.2.2.2.2.2.1 e1)
  · refine a_iconst (k := (-1)) dX11_count_91 (n_lit (by decide)) ?_
    exact a_iret dX11_count_92 (h.2.2.2.2.2.2 e5)
set_option maxRecDepth 10000 in
theorem sg_X11_isCell_0 {d : Nat} {sx : Option (List Int)} (a0 : Int) (a1 : Int) (mem : AMem) (Q : Option AV → AMem → Prop) (h : (a0 < (w32 (10 * a1)) → (Q (some (vi 0)) mem)) ∧ (¬ a0 < (w32 (10 * a1)) → (((8 : Int) < (w32 (Int.tdiv a0 10)) → (Q (some (vi 0)) mem)) ∧ (¬ (8 : Int) < (w32 (Int.tdiv a0 10)) → (((8 : Int) < (Int.tmod a0 10) → (Q (some (vi 0)) mem)) ∧ (¬ (8 : Int) < (Int.tmod a0 10) → (Q (some (vi 1)) mem))))))) : Y cX11_isCell 2 RX11 (d + 1) sx 0 [some (vi a0), some (vi a1)] [] mem Q := by
  refine a_iload_n dX11_isCell_0 rfl rfl ?_
  refine a_bipush (k := 10) dX11_isCell_1 (by decide) (n_lit (by decide)) ?_
  refine a_iload_n dX11_isCell_3 rfl rfl ?_
  refine a_imul dX11_isCell_4 ?_
  refine a_icmp_lt (tgt := 30) dX11_isCell_5 (by decide) ⟨fun c1 => ?_, fun c1 => ?_⟩
  · refine a_iconst (k := 0) dX11_isCell_30 (n_lit (by decide)) ?_
    exact a_iret dX11_isCell_31 (h.1 c1)
  · refine a_iload_n dX11_isCell_8 rfl rfl ?_
    refine a_bipush (k := 10) dX11_isCell_9 (by decide) (n_lit (by decide)) ?_
    refine a_idiv dX11_isCell_11 (by decide) ?_
    refine a_bipush (k := 8) dX11_isCell_12 (by decide) (n_lit (by decide)) ?_
    refine a_icmp_gt (tgt := 30) dX11_isCell_14 (by decide) ⟨fun c2 => ?_, fun c2 => ?_⟩
    · refine a_iconst (k := 0) dX11_isCell_30 (n_lit (by decide)) ?_
      exact a_iret dX11_isCell_31 ((h.2 c1).1 c2)
    · refine a_iload_n dX11_isCell_17 rfl rfl ?_
      refine a_bipush (k := 10) dX11_isCell_18 (by decide) (n_lit (by decide)) ?_
      refine a_irem dX11_isCell_20 (by decide) ?_
      refine a_bipush (k := 8) dX11_isCell_21 (by decide) (n_lit (by decide)) ?_
      refine a_icmp_gt (tgt := 30) dX11_isCell_23 (by decide) ⟨fun c3 => ?_, fun c3 => ?_⟩
      · refine a_iconst (k := 0) dX11_isCell_30 (n_lit (by decide)) ?_
        exact a_iret dX11_isCell_31 (((h.2 c1).2 c2).1 c3)
      · refine a_iconst (k := 1) dX11_isCell_26 (n_lit (by decide)) ?_
        refine a_goto (tgt := 31) dX11_isCell_27 (by decide) ?_
        exact a_iret dX11_isCell_31 (((h.2 c1).2 c2).2 c3)
set_option maxRecDepth 10000 in
theorem sg_X11_noSuchShelf_0 {d : Nat} {sx : Option (List Int)} (a0 : Int) (mem : AMem) (Q : Option AV → AMem → Prop) (h : (a0 < (0 : Int) → (Q (some (vi 1)) mem)) ∧ (¬ a0 < (0 : Int) → ((a0 < (6 : Int) → (Q (some (vi 0)) mem)) ∧ (¬ a0 < (6 : Int) → (Q (some (vi 1)) mem))))) : Y cX11_noSuchShelf 1 RX11 (d + 1) sx 0 [some (vi a0)] [] mem Q := by
  refine a_iload_n dX11_noSuchShelf_0 rfl rfl ?_
  refine a_if_lt (tgt := 10) dX11_noSuchShelf_1 (by decide) ⟨fun c1 => ?_, fun c1 => ?_⟩
  · refine a_iconst (k := 1) dX11_noSuchShelf_10 (n_lit (by decide)) ?_
    refine a_goto (tgt := 15) dX11_noSuchShelf_11 (by decide) ?_
    exact a_iret dX11_noSuchShelf_15 (h.1 c1)
  · refine a_iload_n dX11_noSuchShelf_4 rfl rfl ?_
    refine a_bipush (k := 6) dX11_noSuchShelf_5 (by decide) (n_lit (by decide)) ?_
    refine a_icmp_lt (tgt := 14) dX11_noSuchShelf_7 (by decide) ⟨fun c2 => ?_, fun c2 => ?_⟩
    · refine a_iconst (k := 0) dX11_noSuchShelf_14 (n_lit (by decide)) ?_
      exact a_iret dX11_noSuchShelf_15 ((h.2 c1).1 c2)
    · refine a_iconst (k := 1) dX11_noSuchShelf_10 (n_lit (by decide)) ?_
      refine a_goto (tgt := 15) dX11_noSuchShelf_11 (by decide) ?_
      exact a_iret dX11_noSuchShelf_15 ((h.2 c1).2 c2)
set_option maxRecDepth 10000 in
theorem sg_X11_notOdds_0 {d : Nat} {sx : Option (List Int)} (a0 : Int) (a1 : Int) (a2 : Int) (mem : AMem) (Q : Option AV → AMem → Prop) (h : (a0 < (0 : Int) → (Q (some (vi 1)) mem)) ∧ (¬ a0 < (0 : Int) → (((20 : Int) < a0 → (Q (some (vi 1)) mem)) ∧ (¬ (20 : Int) < a0 → ((a1 < (-30 : Int) → (Q (some (vi 1)) mem)) ∧ (¬ a1 < (-30 : Int) → (((30 : Int) < a1 → (Q (some (vi 1)) mem)) ∧ (¬ (30 : Int) < a1 → ((a2 < (0 : Int) → (Q (some (vi 1)) mem)) ∧ (¬ a2 < (0 : Int) → ((a2 ≤ (1 : Int) → (Q (some (vi 0)) mem)) ∧ (¬ a2 ≤ (1 : Int) → (Q (some (vi 1)) mem))))))))))))) : Y cX11_notOdds 3 RX11 (d + 1) sx 0 [some (vi a0), some (vi a1), some (vi a2)] [] mem Q := by
  refine a_iload_n dX11_notOdds_0 rfl rfl ?_
  refine a_if_lt (tgt := 31) dX11_notOdds_1 (by decide) ⟨fun c1 => ?_, fun c1 => ?_⟩
  · refine a_iconst (k := 1) dX11_notOdds_31 (n_lit (by decide)) ?_
    refine a_goto (tgt := 36) dX11_notOdds_32 (by decide) ?_
    exact a_iret dX11_notOdds_36 (h.1 c1)
  · refine a_iload_n dX11_notOdds_4 rfl rfl ?_
    refine a_bipush (k := 20) dX11_notOdds_5 (by decide) (n_lit (by decide)) ?_
    refine a_icmp_gt (tgt := 31) dX11_notOdds_7 (by decide) ⟨fun c2 => ?_, fun c2 => ?_⟩
    · refine a_iconst (k := 1) dX11_notOdds_31 (n_lit (by decide)) ?_
      refine a_goto (tgt := 36) dX11_notOdds_32 (by decide) ?_
      exact a_iret dX11_notOdds_36 ((h.2 c1).1 c2)
    · refine a_iload_n dX11_notOdds_10 rfl rfl ?_
      refine a_bipush (k := (-30)) dX11_notOdds_11 (by decide) (n_lit (by decide)) ?_
      refine a_icmp_lt (tgt := 31) dX11_notOdds_13 (by decide) ⟨fun c3 => ?_, fun c3 => ?_⟩
      · refine a_iconst (k := 1) dX11_notOdds_31 (n_lit (by decide)) ?_
        refine a_goto (tgt := 36) dX11_notOdds_32 (by decide) ?_
        exact a_iret dX11_notOdds_36 (((h.2 c1).2 c2).1 c3)
      · refine a_iload_n dX11_notOdds_16 rfl rfl ?_
        refine a_bipush (k := 30) dX11_notOdds_17 (by decide) (n_lit (by decide)) ?_
        refine a_icmp_gt (tgt := 31) dX11_notOdds_19 (by decide) ⟨fun c4 => ?_, fun c4 => ?_⟩
        · refine a_iconst (k := 1) dX11_notOdds_31 (n_lit (by decide)) ?_
          refine a_goto (tgt := 36) dX11_notOdds_32 (by decide) ?_
          exact a_iret dX11_notOdds_36 ((((h.2 c1).2 c2).2 c3).1 c4)
        · refine a_iload_n dX11_notOdds_22 rfl rfl ?_
          refine a_if_lt (tgt := 31) dX11_notOdds_23 (by decide) ⟨fun c5 => ?_, fun c5 => ?_⟩
          · refine a_iconst (k := 1) dX11_notOdds_31 (n_lit (by decide)) ?_
            refine a_goto (tgt := 36) dX11_notOdds_32 (by decide) ?_
            exact a_iret dX11_notOdds_36 (((((h.2 c1).2 c2).2 c3).2 c4).1 c5)
          · refine a_iload_n dX11_notOdds_26 rfl rfl ?_
            refine a_iconst (k := 1) dX11_notOdds_27 (n_lit (by decide)) ?_
            refine a_icmp_le (tgt := 35) dX11_notOdds_28 (by decide) ⟨fun c6 => ?_, fun c6 => ?_⟩
            · refine a_iconst (k := 0) dX11_notOdds_35 (n_lit (by decide)) ?_
              exact a_iret dX11_notOdds_36 ((((((h.2 c1).2 c2).2 c3).2 c4).2 c5).1 c6)
            · refine a_iconst (k := 1) dX11_notOdds_31 (n_lit (by decide)) ?_
              refine a_goto (tgt := 36) dX11_notOdds_32 (by decide) ?_
              exact a_iret dX11_notOdds_36 ((((((h.2 c1).2 c2).2 c3).2 c4).2 c5).2 c6)
set_option maxRecDepth 10000 in
theorem sg_X11_notSizes_0 {d : Nat} {sx : Option (List Int)} (a0 : Int) (mem : AMem) (Q : Option AV → AMem → Prop) (h : ((w32 (Int.tdiv a0 10)) < (1 : Int) → (Q (some (vi 1)) mem)) ∧ (¬ (w32 (Int.tdiv a0 10)) < (1 : Int) → (((7 : Int) < (w32 (Int.tdiv a0 10)) → (Q (some (vi 1)) mem)) ∧ (¬ (7 : Int) < (w32 (Int.tdiv a0 10)) → (((Int.tmod a0 10) < (1 : Int) → (Q (some (vi 1)) mem)) ∧ (¬ (Int.tmod a0 10) < (1 : Int) → (((Int.tmod a0 10) ≤ (7 : Int) → (Q (some (vi 0)) mem)) ∧ (¬ (Int.tmod a0 10) ≤ (7 : Int) → (Q (some (vi 1)) mem))))))))) : Y cX11_notSizes 3 RX11 (d + 1) sx 0 [some (vi a0), none, none] [] mem Q := by
  refine a_iload_n dX11_notSizes_0 rfl rfl ?_
  refine a_bipush (k := 10) dX11_notSizes_1 (by decide) (n_lit (by decide)) ?_
  refine a_idiv dX11_notSizes_3 (by decide) ?_
  refine a_istore_n dX11_notSizes_4 rfl (by decide) rfl ?_
  refine a_iload_n dX11_notSizes_5 rfl rfl ?_
  refine a_bipush (k := 10) dX11_notSizes_6 (by decide) (n_lit (by decide)) ?_
  refine a_irem dX11_notSizes_8 (by decide) ?_
  refine a_istore_n dX11_notSizes_9 rfl (by decide) rfl ?_
  refine a_iload_n dX11_notSizes_10 rfl rfl ?_
  refine a_iconst (k := 1) dX11_notSizes_11 (n_lit (by decide)) ?_
  refine a_icmp_lt (tgt := 32) dX11_notSizes_12 (by decide) ⟨fun c1 => ?_, fun c1 => ?_⟩
  · refine a_iconst (k := 1) dX11_notSizes_32 (n_lit (by decide)) ?_
    refine a_goto (tgt := 37) dX11_notSizes_33 (by decide) ?_
    exact a_iret dX11_notSizes_37 (h.1 c1)
  · refine a_iload_n dX11_notSizes_15 rfl rfl ?_
    refine a_bipush (k := 7) dX11_notSizes_16 (by decide) (n_lit (by decide)) ?_
    refine a_icmp_gt (tgt := 32) dX11_notSizes_18 (by decide) ⟨fun c2 => ?_, fun c2 => ?_⟩
    · refine a_iconst (k := 1) dX11_notSizes_32 (n_lit (by decide)) ?_
      refine a_goto (tgt := 37) dX11_notSizes_33 (by decide) ?_
      exact a_iret dX11_notSizes_37 ((h.2 c1).1 c2)
    · refine a_iload_n dX11_notSizes_21 rfl rfl ?_
      refine a_iconst (k := 1) dX11_notSizes_22 (n_lit (by decide)) ?_
      refine a_icmp_lt (tgt := 32) dX11_notSizes_23 (by decide) ⟨fun c3 => ?_, fun c3 => ?_⟩
      · refine a_iconst (k := 1) dX11_notSizes_32 (n_lit (by decide)) ?_
        refine a_goto (tgt := 37) dX11_notSizes_33 (by decide) ?_
        exact a_iret dX11_notSizes_37 (((h.2 c1).2 c2).1 c3)
      · refine a_iload_n dX11_notSizes_26 rfl rfl ?_
        refine a_bipush (k := 7) dX11_notSizes_27 (by decide) (n_lit (by decide)) ?_
        refine a_icmp_le (tgt := 36) dX11_notSizes_29 (by decide) ⟨fun c4 => ?_, fun c4 => ?_⟩
        · refine a_iconst (k := 0) dX11_notSizes_36 (n_lit (by decide)) ?_
          exact a_iret dX11_notSizes_37 ((((h.2 c1).2 c2).2 c3).1 c4)
        · refine a_iconst (k := 1) dX11_notSizes_32 (n_lit (by decide)) ?_
          refine a_goto (tgt := 37) dX11_notSizes_33 (by decide) ?_
          exact a_iret dX11_notSizes_37 ((((h.2 c1).2 c2).2 c3).2 c4)
set_option maxRecDepth 10000 in
theorem sg_X11_refusalOfBytes_0 {d : Nat} {sx : Option (List Int)} (a1 : Int) (mem : AMem) (Q : Option AV → AMem → Prop) (h : MtX yX11_noSuchShelf cX11_noSuchShelf 1 (some .boolean) d [vi a1] mem (fun r m1 => ∃ x3 : Int, r = some (vi x3) ∧ ((x3 = (0 : Int) → ((0 ≤ a1 ∧ a1 < 6) ∧ (MtX yX10_isEmpty cX10_isEmpty 1 (some .boolean) d [vr 10 (Int.toNat a1)] m1 (fun r m5 => ∃ x7 : Int, r = some (vi x7) ∧ ((x7 = (0 : Int) → ((0 ≤ a1 ∧ a1 < 6) ∧ (MtX yX10_holdsBytes cX10_holdsBytes 1 (some .boolean) d [vr 10 (Int.toNat a1)] m5 (fun r m9 => ∃ x11 : Int, r = some (vi x11) ∧ ((x11 = (0 : Int) → (Q (some (vi (-12))) m9)) ∧ (¬ x11 = (0 : Int) → (Q (some (vi 0)) m9))))))) ∧ (¬ x7 = (0 : Int) → (Q (some (vi (-11))) m5))))))) ∧ (¬ x3 = (0 : Int) → (Q (some (vi (-1))) m1))))) : Y cX11_refusalOfBytes 2 RX11 (d + 1) sx 0 [some (vr 11 0), some (vi a1)] [] mem Q := by
  refine a_iload_n dX11_refusalOfBytes_0 rfl rfl ?_
  refine iv_X11_95 dX11_refusalOfBytes_1 (Nat.le_of_ble_eq_true rfl) (MtX_mono h (fun r m1 hq => ?_))
  obtain ⟨x3, rfl, h2⟩ := hq
  refine ⟨x3, rfl, ?_⟩
  refine a_if_eq (tgt := 9) dX11_refusalOfBytes_4 (by decide) ⟨fun c4 => ?_, fun c4 => ?_⟩
  · refine a_aload_n dX11_refusalOfBytes_9 rfl rfl ?_
    refine gf_X11_67 dX11_refusalOfBytes_10 ?_
    refine a_iload_n dX11_refusalOfBytes_13 rfl rfl ?_
    refine a_shelves dX11_refusalOfBytes_14 ⟨(h2.1 c4).1, ?_⟩
    refine iv_X11_99 dX11_refusalOfBytes_15 (Nat.le_of_ble_eq_true rfl) (MtX_mono (h2.1 c4).2 (fun r m5 hq => ?_))
    obtain ⟨x7, rfl, h6⟩ := hq
    refine ⟨x7, rfl, ?_⟩
    refine a_if_eq (tgt := 24) dX11_refusalOfBytes_18 (by decide) ⟨fun c8 => ?_, fun c8 => ?_⟩
    · refine a_aload_n dX11_refusalOfBytes_24 rfl rfl ?_
      refine gf_X11_67 dX11_refusalOfBytes_25 ?_
      refine a_iload_n dX11_refusalOfBytes_28 rfl rfl ?_
      refine a_shelves dX11_refusalOfBytes_29 ⟨(h6.1 c8).1, ?_⟩
      refine iv_X11_102 dX11_refusalOfBytes_30 (Nat.le_of_ble_eq_true rfl) (MtX_mono (h6.1 c8).2 (fun r m9 hq => ?_))
      obtain ⟨x11, rfl, h10⟩ := hq
      refine ⟨x11, rfl, ?_⟩
      refine a_if_eq (tgt := 40) dX11_refusalOfBytes_33 (by decide) ⟨fun c12 => ?_, fun c12 => ?_⟩
      · refine a_bipush (k := (-12)) dX11_refusalOfBytes_40 (by decide) (n_lit (by decide)) ?_
        exact a_iret dX11_refusalOfBytes_42 (h10.1 c12)
      · refine a_iconst (k := 0) dX11_refusalOfBytes_36 (n_lit (by decide)) ?_
        refine a_goto (tgt := 42) dX11_refusalOfBytes_37 (by decide) ?_
        exact a_iret dX11_refusalOfBytes_42 (h10.2 c12)
    · refine a_bipush (k := (-11)) dX11_refusalOfBytes_21 (by decide) (n_lit (by decide)) ?_
      exact a_iret dX11_refusalOfBytes_23 (h6.2 c8)
  · refine a_iconst (k := (-1)) dX11_refusalOfBytes_7 (n_lit (by decide)) ?_
    exact a_iret dX11_refusalOfBytes_8 (h2.2 c4)
set_option maxRecDepth 10000 in
theorem sg_X11_refusalOfElement_0 {d : Nat} {sx : Option (List Int)} (a1 : Int) (a2 : Int) (mem : AMem) (Q : Option AV → AMem → Prop) (h : MtX yX11_noSuchShelf cX11_noSuchShelf 1 (some .boolean) d [vi a1] mem (fun r m1 => ∃ x3 : Int, r = some (vi x3) ∧ ((x3 = (0 : Int) → ((0 ≤ a1 ∧ a1 < 6) ∧ (MtX yX10_isEmpty cX10_isEmpty 1 (some .boolean) d [vr 10 (Int.toNat a1)] m1 (fun r m5 => ∃ x7 : Int, r = some (vi x7) ∧ ((x7 = (0 : Int) → ((0 ≤ a1 ∧ a1 < 6) ∧ (MtX yX10_holdsRow cX10_holdsRow 1 (some .boolean) d [vr 10 (Int.toNat a1)] m5 (fun r m9 => ∃ x11 : Int, r = some (vi x11) ∧ ((x11 ≠ (0 : Int) → ((0 ≤ a1 ∧ a1 < 6) ∧ (MtX yX10_reaches cX10_reaches 3 (some .boolean) d [vr 10 (Int.toNat a1), vi a2, vi 1] m9 (fun r m13 => ∃ x15 : Int, r = some (vi x15) ∧ ((x15 = (0 : Int) → (Q (some (vi (-13))) m13)) ∧ (¬ x15 = (0 : Int) → (Q (some (vi 0)) m13))))))) ∧ (x11 = (0 : Int) → (Q (some (vi (-12))) m9))))))) ∧ (¬ x7 = (0 : Int) → (Q (some (vi (-11))) m5))))))) ∧ (¬ x3 = (0 : Int) → (Q (some (vi (-1))) m1))))) : Y cX11_refusalOfElement 3 RX11 (d + 1) sx 0 [some (vr 11 0), some (vi a1), some (vi a2)] [] mem Q := by
  refine a_iload_n dX11_refusalOfElement_0 rfl rfl ?_
  refine iv_X11_95 dX11_refusalOfElement_1 (Nat.le_of_ble_eq_true rfl) (MtX_mono h (fun r m1 hq => ?_))
  obtain ⟨x3, rfl, h2⟩ := hq
  refine ⟨x3, rfl, ?_⟩
  refine a_if_eq (tgt := 9) dX11_refusalOfElement_4 (by decide) ⟨fun c4 => ?_, fun c4 => ?_⟩
  · refine a_aload_n dX11_refusalOfElement_9 rfl rfl ?_
    refine gf_X11_67 dX11_refusalOfElement_10 ?_
    refine a_iload_n dX11_refusalOfElement_13 rfl rfl ?_
    refine a_shelves dX11_refusalOfElement_14 ⟨(h2.1 c4).1, ?_⟩
    refine iv_X11_99 dX11_refusalOfElement_15 (Nat.le_of_ble_eq_true rfl) (MtX_mono (h2.1 c4).2 (fun r m5 hq => ?_))
    obtain ⟨x7, rfl, h6⟩ := hq
    refine ⟨x7, rfl, ?_⟩
    refine a_if_eq (tgt := 24) dX11_refusalOfElement_18 (by decide) ⟨fun c8 => ?_, fun c8 => ?_⟩
    · refine a_aload_n dX11_refusalOfElement_24 rfl rfl ?_
      refine gf_X11_67 dX11_refusalOfElement_25 ?_
      refine a_iload_n dX11_refusalOfElement_28 rfl rfl ?_
      refine a_shelves dX11_refusalOfElement_29 ⟨(h6.1 c8).1, ?_⟩
      refine iv_X11_356 dX11_refusalOfElement_30 (Nat.le_of_ble_eq_true rfl) (MtX_mono (h6.1 c8).2 (fun r m9 hq => ?_))
      obtain ⟨x11, rfl, h10⟩ := hq
      refine ⟨x11, rfl, ?_⟩
      refine a_if_ne (tgt := 39) dX11_refusalOfElement_33 (by decide) ⟨fun c12 => ?_, fun c12 => ?_⟩
      · refine a_aload_n dX11_refusalOfElement_39 rfl rfl ?_
        refine gf_X11_67 dX11_refusalOfElement_40 ?_
        refine a_iload_n dX11_refusalOfElement_43 rfl rfl ?_
        refine a_shelves dX11_refusalOfElement_44 ⟨(h10.1 c12).1, ?_⟩
        refine a_iload_n dX11_refusalOfElement_45 rfl rfl ?_
        refine a_iconst (k := 1) dX11_refusalOfElement_46 (n_lit (by decide)) ?_
        refine iv_X11_362 dX11_refusalOfElement_47 (Nat.le_of_ble_eq_true rfl) (MtX_mono (h10.1 c12).2 (fun r m13 hq => ?_))
        obtain ⟨x15, rfl, h14⟩ := hq
        refine ⟨x15, rfl, ?_⟩
        refine a_if_eq (tgt := 57) dX11_refusalOfElement_50 (by decide) ⟨fun c16 => ?_, fun c16 => ?_⟩
        · refine a_bipush (k := (-13)) dX11_refusalOfElement_57 (by decide) (n_lit (by decide)) ?_
          exact a_iret dX11_refusalOfElement_59 (h14.1 c16)
        · refine a_iconst (k := 0) dX11_refusalOfElement_53 (n_lit (by decide)) ?_
          refine a_goto (tgt := 59) dX11_refusalOfElement_54 (by decide) ?_
          exact a_iret dX11_refusalOfElement_59 (h14.2 c16)
      · refine a_bipush (k := (-12)) dX11_refusalOfElement_36 (by decide) (n_lit (by decide)) ?_
        exact a_iret dX11_refusalOfElement_38 (h10.2 c12)
    · refine a_bipush (k := (-11)) dX11_refusalOfElement_21 (by decide) (n_lit (by decide)) ?_
      exact a_iret dX11_refusalOfElement_23 (h6.2 c8)
  · refine a_iconst (k := (-1)) dX11_refusalOfElement_7 (n_lit (by decide)) ?_
    exact a_iret dX11_refusalOfElement_8 (h2.2 c4)
set_option maxRecDepth 10000 in
theorem sg_X11_addFrom_0 {d : Nat} {sx : Option (List Int)} (j1 : Nat) (a2 : Int) (a3 : Int) (mem : AMem) (Q : Option AV → AMem → Prop) (h : Y cX11_addFrom 12 RX11 (d + 1) sx 6 [some (vr 11 0), some (vr 10 j1), some (vi a2), some (vi a3), some (vi 0), some (vi a2), none, none, none, none, none, none] [] mem Q) : Y cX11_addFrom 12 RX11 (d + 1) sx 0 [some (vr 11 0), some (vr 10 j1), some (vi a2), some (vi a3), none, none, none, none, none, none, none, none] [] mem Q := by
  refine a_iconst (k := 0) dX11_addFrom_0 (n_lit (by decide)) ?_
  refine a_istore dX11_addFrom_1 (by decide) rfl ?_
  refine a_iload_n dX11_addFrom_3 rfl rfl ?_
  refine a_istore dX11_addFrom_4 (by decide) rfl ?_
  exact h
set_option maxRecDepth 10000 in
theorem sg_X11_addFrom_6 {d : Nat} {sx : Option (List Int)} (j1 : Nat) (a2 : Int) (a3 : Int) (a4 : Int) (a5 : Int) (mem : AMem) (Q : Option AV → AMem → Prop) (h : (a3 ≤ a4 → (Q (some (vi a4)) mem)) ∧ (¬ a3 ≤ a4 → (MtX yX2_isFull cX2_isFull 1 (some .boolean) d [vr 2 0] mem (fun r m2 => ∃ x4 : Int, r = some (vi x4) ∧ ((x4 ≠ (0 : Int) → (Q (some (vi a4)) m2)) ∧ (x4 = (0 : Int) → (MtX yX10_reaches cX10_reaches 3 (some .boolean) d [vr 10 j1, vi a5, vi 3] m2 (fun r m6 => ∃ x8 : Int, r = some (vi x8) ∧ ((x8 = (0 : Int) → (Q (some (vi a4)) m6)) ∧ (¬ x8 = (0 : Int) → ((0 ≤ a5 ∧ a5 < 60) ∧ ((0 ≤ (w32 (a5 + 1)) ∧ (w32 (a5 + 1)) < 60) ∧ ((0 ≤ (w32 (a5 + 2)) ∧ (w32 (a5 + 2)) < 60) ∧ (((lc (m6 1100 j1 a5) 0) < (0 : Int) → (Q (some (vi a4)) m6)) ∧ (¬ (lc (m6 1100 j1 a5) 0) < (0 : Int) → (((0 : Int) < (lc (m6 1100 j1 a5) 8) → (Q (some (vi a4)) m6)) ∧ (¬ (0 : Int) < (lc (m6 1100 j1 a5) 8) → (((lc (m6 1100 j1 (w32 (a5 + 1))) 1) < (0 : Int) → (Q (some (vi a4)) m6)) ∧ (¬ (lc (m6 1100 j1 (w32 (a5 + 1))) 1) < (0 : Int) → (((0 : Int) < (lc (m6 1100 j1 (w32 (a5 + 1))) 8) → (Q (some (vi a4)) m6)) ∧ (¬ (0 : Int) < (lc (m6 1100 j1 (w32 (a5 + 1))) 8) → (((lc (m6 1100 j1 (w32 (a5 + 2))) 0) < (0 : Int) → (Q (some (vi a4)) m6)) ∧ (¬ (lc (m6 1100 j1 (w32 (a5 + 2))) 0) < (0 : Int) → ((0 ≤ (2 : Int) ∧ (2 : Int) < ((romL 2000).length : Int)) ∧ (((lc (m6 1100 j1 (w32 (a5 + 2))) (List.getD (romL 2000) (Int.toNat 2) 0)) ≤ (0 : Int) → (MtX yX2_add cX2_add 5 (some .int) d [vr 2 0, vi (w32 (m6 1100 j1 a5)), vi (w32 (m6 1100 j1 (w32 (a5 + 1)))), vi (w32 (m6 1100 j1 (w32 (a5 + 2))))] m6 (fun r m16 => ∃ x18 : Int, r = some (vi x18) ∧ (Y cX11_addFrom 12 RX11 (d + 1) sx 6 [some (vr 11 0), some (vr 10 j1), some (vi a2), some (vi a3), some (vi (w32 (a4 + 1))), some (vi (w32 (a5 + 3))), some (vl (m6 1100 j1 a5)), none, some (vl (m6 1100 j1 (w32 (a5 + 1)))), none, some (vl (m6 1100 j1 (w32 (a5 + 2)))), none] [] m16 Q)))) ∧ (¬ (lc (m6 1100 j1 (w32 (a5 + 2))) (List.getD (romL 2000) (Int.toNat 2) 0)) ≤ (0 : Int) → (Q (some (vi a4)) m6))))))))))))))))))))))))))) : Y cX11_addFrom 12 RX11 (d + 1) sx 6 [some (vr 11 0), some (vr 10 j1), some (vi a2), some (vi a3), some (vi a4), some (vi a5), none, none, none, none, none, none] [] mem Q := by
  refine a_iload dX11_addFrom_6 rfl ?_
  refine a_iload_n dX11_addFrom_8 rfl rfl ?_
  refine a_icmp_ge (tgt := 143) dX11_addFrom_9 (by decide) ⟨fun c1 => ?_, fun c1 => ?_⟩
  · refine a_iload dX11_addFrom_143 rfl ?_
    exact a_iret dX11_addFrom_145 (h.1 c1)
  · refine a_aload_n dX11_addFrom_12 rfl rfl ?_
    refine gf_X11_10 dX11_addFrom_13 ?_
    refine iv_X11_87 dX11_addFrom_16 (Nat.le_of_ble_eq_true rfl) (MtX_mono (h.2 c1) (fun r m2 hq => ?_))
    obtain ⟨x4, rfl, h3⟩ := hq
    refine ⟨x4, rfl, ?_⟩
    refine a_if_ne (tgt := 143) dX11_addFrom_19 (by decide) ⟨fun c5 => ?_, fun c5 => ?_⟩
    · refine a_iload dX11_addFrom_143 rfl ?_
      exact a_iret dX11_addFrom_145 (h3.1 c5)
    · refine a_aload_n dX11_addFrom_22 rfl rfl ?_
      refine a_iload dX11_addFrom_23 rfl ?_
      refine a_iconst (k := 3) dX11_addFrom_25 (n_lit (by decide)) ?_
      refine iv_X11_362 dX11_addFrom_26 (Nat.le_of_ble_eq_true rfl) (MtX_mono (h3.2 c5) (fun r m6 hq => ?_))
      obtain ⟨x8, rfl, h7⟩ := hq
      refine ⟨x8, rfl, ?_⟩
      refine a_if_eq (tgt := 143) dX11_addFrom_29 (by decide) ⟨fun c9 => ?_, fun c9 => ?_⟩
      · refine a_iload dX11_addFrom_143 rfl ?_
        exact a_iret dX11_addFrom_145 (h7.1 c9)
      · refine a_aload_n dX11_addFrom_32 rfl rfl ?_
        refine gf_X11_352 dX11_addFrom_33 ?_
        refine a_iload dX11_addFrom_36 rfl ?_
        refine a_lald rfl rfl (by decide) rfl dX11_addFrom_38 ⟨(h7.2 c9).1, ?_⟩
        refine a_lstore dX11_addFrom_39 (by decide) rfl ?_
        refine a_aload_n dX11_addFrom_41 rfl rfl ?_
        refine gf_X11_352 dX11_addFrom_42 ?_
        refine a_iload dX11_addFrom_45 rfl ?_
        refine a_iconst (k := 1) dX11_addFrom_47 (n_lit (by decide)) ?_
        refine a_iadd dX11_addFrom_48 ?_
        refine a_lald rfl rfl (by decide) rfl dX11_addFrom_49 ⟨(h7.2 c9).2.1, ?_⟩
        refine a_lstore dX11_addFrom_50 (by decide) rfl ?_
        refine a_aload_n dX11_addFrom_52 rfl rfl ?_
        refine gf_X11_352 dX11_addFrom_53 ?_
        refine a_iload dX11_addFrom_56 rfl ?_
        refine a_iconst (k := 2) dX11_addFrom_58 (n_lit (by decide)) ?_
        refine a_iadd dX11_addFrom_59 ?_
        refine a_lald rfl rfl (by decide) rfl dX11_addFrom_60 ⟨(h7.2 c9).2.2.1, ?_⟩
        refine a_lstore dX11_addFrom_61 (by decide) rfl ?_
        refine a_lload dX11_addFrom_63 rfl ?_
        refine a_lconst (k := 0) dX11_addFrom_65 (by decide) (n_litL (by decide)) ?_
        refine a_lcmp dX11_addFrom_66 ?_
        refine a_if_lt (tgt := 114) dX11_addFrom_67 (by decide) ⟨fun c10 => ?_, fun c10 => ?_⟩
        · refine a_iload dX11_addFrom_114 rfl ?_
          exact a_iret dX11_addFrom_116 ((h7.2 c9).2.2.2.1 c10)
        · refine a_lload dX11_addFrom_70 rfl ?_
          refine a_ldc2 (k := 8) cl_X11_384 (n_litL (by decide)) dX11_addFrom_72 ?_
          refine a_lcmp dX11_addFrom_75 ?_
          refine a_if_gt (tgt := 114) dX11_addFrom_76 (by decide) ⟨fun c11 => ?_, fun c11 => ?_⟩
          · refine a_iload dX11_addFrom_114 rfl ?_
            exact a_iret dX11_addFrom_116 (((h7.2 c9).2.2.2.2 c10).1 c11)
          · refine a_lload dX11_addFrom_79 rfl ?_
            refine a_lconst (k := 1) dX11_addFrom_81 (by decide) (n_litL (by decide)) ?_
            refine a_lcmp dX11_addFrom_82 ?_
            refine a_if_lt (tgt := 114) dX11_addFrom_83 (by decide) ⟨fun c12 => ?_, fun c12 => ?_⟩
            · refine a_iload dX11_addFrom_114 rfl ?_
              exact a_iret dX11_addFrom_116 ((((h7.2 c9).2.2.2.2 c10).2 c11).1 c12)
            · refine a_lload dX11_addFrom_86 rfl ?_
              refine a_ldc2 (k := 8) cl_X11_384 (n_litL (by decide)) dX11_addFrom_88 ?_
              refine a_lcmp dX11_addFrom_91 ?_
              refine a_if_gt (tgt := 114) dX11_addFrom_92 (by decide) ⟨fun c13 => ?_, fun c13 => ?_⟩
              · refine a_iload dX11_addFrom_114 rfl ?_
                exact a_iret dX11_addFrom_116 (((((h7.2 c9).2.2.2.2 c10).2 c11).2 c12).1 c13)
              · refine a_lload dX11_addFrom_95 rfl ?_
                refine a_lconst (k := 0) dX11_addFrom_97 (by decide) (n_litL (by decide)) ?_
                refine a_lcmp dX11_addFrom_98 ?_
                refine a_if_lt (tgt := 114) dX11_addFrom_99 (by decide) ⟨fun c14 => ?_, fun c14 => ?_⟩
                · refine a_iload dX11_addFrom_114 rfl ?_
                  exact a_iret dX11_addFrom_116 ((((((h7.2 c9).2.2.2.2 c10).2 c11).2 c12).2 c13).1 c14)
                · refine a_lload dX11_addFrom_102 rfl ?_
                  refine a_gets (k := 2000) (fun hR => hR.2.1.1) fl_X11_83 (by decide) dX11_addFrom_104 ?_
                  refine a_iconst (k := 2) dX11_addFrom_107 (n_lit (by decide)) ?_
                  refine a_rom (by decide) dX11_addFrom_108 ⟨((((((h7.2 c9).2.2.2.2 c10).2 c11).2 c12).2 c13).2 c14).1, ?_⟩
                  refine a_i2l dX11_addFrom_109 ?_
                  refine a_lcmp dX11_addFrom_110 ?_
                  refine a_if_le (tgt := 117) dX11_addFrom_111 (by decide) ⟨fun c15 => ?_, fun c15 => ?_⟩
                  · refine a_aload_n dX11_addFrom_117 rfl rfl ?_
                    refine gf_X11_10 dX11_addFrom_118 ?_
                    refine a_lload dX11_addFrom_121 rfl ?_
                    refine a_l2i dX11_addFrom_123 ?_
                    refine a_lload dX11_addFrom_124 rfl ?_
                    refine a_l2i dX11_addFrom_126 ?_
                    refine a_lload dX11_addFrom_127 rfl ?_
                    refine a_l2i dX11_addFrom_129 ?_
                    refine iv_X11_91 dX11_addFrom_130 (Nat.le_of_ble_eq_true rfl) (MtX_mono (((((((h7.2 c9).2.2.2.2 c10).2 c11).2 c12).2 c13).2 c14).2.1 c15) (fun r m16 hq => ?_))
                    obtain ⟨x18, rfl, h17⟩ := hq
                    refine ⟨x18, rfl, ?_⟩
                    refine a_pop dX11_addFrom_133 rfl ?_
                    refine a_iinc dX11_addFrom_134 rfl (by decide) rfl ?_
                    refine a_iinc dX11_addFrom_137 rfl (by decide) rfl ?_
                    refine a_goto (tgt := 6) dX11_addFrom_140 (by decide) ?_
                    exact h17
                  · refine a_iload dX11_addFrom_114 rfl ?_
                    exact a_iret dX11_addFrom_116 (((((((h7.2 c9).2.2.2.2 c10).2 c11).2 c12).2 c13).2 c14).2.2 c15)
set_option maxRecDepth 10000 in
theorem sg_X11_thinkThrough_0 {d : Nat} {sx : Option (List Int)} (a1 : Int) (mem : AMem) (Q : Option AV → AMem → Prop) (h : MtX yX7_begin cX7_begin 2 none d [vr 7 0, vr 2 0] mem (fun r m1 => r = none ∧ ((0 ≤ a1 ∧ a1 < 6) ∧ (MtX yX7_play cX7_play 4 none d [vr 7 0, vr 2 0, vr 10 (Int.toNat a1)] m1 (fun r m3 => r = none ∧ (Q none m3)))))) : Y cX11_thinkThrough 2 RX11 (d + 1) sx 0 [some (vr 11 0), some (vi a1)] [] mem Q := by
  refine a_aload_n dX11_thinkThrough_0 rfl rfl ?_
  refine gf_X11_19 dX11_thinkThrough_1 ?_
  refine a_aload_n dX11_thinkThrough_4 rfl rfl ?_
  refine gf_X11_10 dX11_thinkThrough_5 ?_
  refine iv_X11_146 dX11_thinkThrough_8 (Nat.le_of_ble_eq_true rfl) (MtX_mono h (fun r m1 hq => ?_))
  obtain ⟨rfl, h2⟩ := hq
  refine ⟨rfl, ?_⟩
  refine a_aload_n dX11_thinkThrough_11 rfl rfl ?_
  refine gf_X11_19 dX11_thinkThrough_12 ?_
  refine a_aload_n dX11_thinkThrough_15 rfl rfl ?_
  refine gf_X11_10 dX11_thinkThrough_16 ?_
  refine a_aload_n dX11_thinkThrough_19 rfl rfl ?_
  refine gf_X11_67 dX11_thinkThrough_20 ?_
  refine a_iload_n dX11_thinkThrough_23 rfl rfl ?_
  refine a_shelves dX11_thinkThrough_24 ⟨h2.1, ?_⟩
  refine iv_X11_201 dX11_thinkThrough_25 (Nat.le_of_ble_eq_true rfl) (MtX_mono h2.2 (fun r m3 hq => ?_))
  obtain ⟨rfl, h4⟩ := hq
  refine ⟨rfl, ?_⟩
  exact a_vret dX11_thinkThrough_28 h4
