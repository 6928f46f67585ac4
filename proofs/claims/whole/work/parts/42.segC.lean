set_option maxRecDepth 10000 in
theorem sg_X7_begin_0 {d : Nat} {sx : Option (List Int)} (j0 : Nat) (mem : AMem) (Q : Option AV → AMem → Prop) (h : MtX yX7_copyPlaces cX7_copyPlaces 4 none d [vr 7 j0, vr 300 0, vr 301 0] mem (fun r m1 => r = none ∧ ((0 ≤ (7 : Int) ∧ (7 : Int) < 14) ∧ ((0 ≤ (4 : Int) ∧ (4 : Int) < 14) ∧ ((0 ≤ (6 : Int) ∧ (6 : Int) < 14) ∧ (Q none (upM (upM (upM (upM (upM (upM (upM (upM (upM (upM (upM m1 7 j0 3 (m1 2 0 4)) 7 j0 4 (m1 303 0 7)) 7 j0 5 0) 7 j0 6 (m1 303 0 4)) 7 j0 7 (m1 303 0 6)) 7 j0 8 0) 7 j0 9 0) 7 j0 10 0) 7 j0 11 0) 7 j0 12 0) 7 j0 13 0))))))) : Y cX7_begin 2 RX7 (d + 1) sx 0 [some (vr 7 j0), some (vr 2 0)] [] mem Q := by
  refine a_aload_n dX7_begin_0 rfl rfl ?_
  refine a_aload_n dX7_begin_1 rfl rfl ?_
  refine gf_X7_23 dX7_begin_2 ?_
  refine a_aload_n dX7_begin_5 rfl rfl ?_
  refine gf_X7_26 dX7_begin_6 ?_
  refine iv_X7_27 dX7_begin_9 (Nat.le_of_ble_eq_true rfl) (MtX_mono h (fun r m1 hq => ?_))
  obtain ⟨rfl, h2⟩ := hq
  refine ⟨rfl, ?_⟩
  refine a_aload_n dX7_begin_12 rfl rfl ?_
  refine a_aload_n dX7_begin_13 rfl rfl ?_
  refine gf_X7_31 (x := m1 2 0 4) rfl dX7_begin_14 ?_
  refine pf_X7_35 dX7_begin_17 ?_
  refine a_aload_n dX7_begin_20 rfl rfl ?_
  refine a_aload_n dX7_begin_21 rfl rfl ?_
  refine gf_X7_36 dX7_begin_22 ?_
  refine a_bipush (k := 7) dX7_begin_25 (by decide) (n_lit (by decide)) ?_
  refine a_iald rfl rfl (by decide) rfl dX7_begin_27 ⟨h2.1, ?_⟩
  refine pf_X7_39 dX7_begin_28 ?_
  refine a_aload_n dX7_begin_31 rfl rfl ?_
  refine a_iconst (k := 0) dX7_begin_32 (n_lit (by decide)) ?_
  refine pf_X7_42 dX7_begin_33 ?_
  refine a_aload_n dX7_begin_36 rfl rfl ?_
  refine a_aload_n dX7_begin_37 rfl rfl ?_
  refine gf_X7_36 dX7_begin_38 ?_
  refine a_iconst (k := 4) dX7_begin_41 (n_lit (by decide)) ?_
  refine a_iald rfl rfl (by decide) rfl dX7_begin_42 ⟨h2.2.1, ?_⟩
  refine pf_X7_45 dX7_begin_43 ?_
  refine a_aload_n dX7_begin_46 rfl rfl ?_
  refine a_aload_n dX7_begin_47 rfl rfl ?_
  refine gf_X7_36 dX7_begin_48 ?_
  refine a_bipush (k := 6) dX7_begin_51 (by decide) (n_lit (by decide)) ?_
  refine a_iald rfl rfl (by decide) rfl dX7_begin_53 ⟨h2.2.2.1, ?_⟩
  refine pf_X7_48 dX7_begin_54 ?_
  refine a_aload_n dX7_begin_57 rfl rfl ?_
  refine a_iconst (k := 0) dX7_begin_58 (n_lit (by decide)) ?_
  refine pf_X7_51 dX7_begin_59 ?_
  refine a_aload_n dX7_begin_62 rfl rfl ?_
  refine a_iconst (k := 0) dX7_begin_63 (n_lit (by decide)) ?_
  refine pf_X7_54 dX7_begin_64 ?_
  refine a_aload_n dX7_begin_67 rfl rfl ?_
  refine a_iconst (k := 0) dX7_begin_68 (n_lit (by decide)) ?_
  refine pf_X7_57 dX7_begin_69 ?_
  refine a_aload_n dX7_begin_72 rfl rfl ?_
  refine a_iconst (k := 0) dX7_begin_73 (n_lit (by decide)) ?_
  refine pf_X7_60 dX7_begin_74 ?_
  refine a_aload_n dX7_begin_77 rfl rfl ?_
  refine a_iconst (k := 0) dX7_begin_78 (n_lit (by decide)) ?_
  refine pf_X7_63 dX7_begin_79 ?_
  refine a_aload_n dX7_begin_82 rfl rfl ?_
  refine a_iconst (k := 0) dX7_begin_83 (n_lit (by decide)) ?_
  refine pf_X7_66 dX7_begin_84 ?_
  exact a_vret dX7_begin_87 h2.2.2.2
set_option maxRecDepth 10000 in
theorem sg_X7_copyPlaces_h_0 {d : Nat} {sx : Option (List Int)} (j0 : Nat) (mem : AMem) (Q : Option AV → AMem → Prop) (h : Y cX7_copyPlaces 4 RX7 (d + 1) sx 2 [some (vr 7 j0), some (vr 300 0), some (vr 301 0), some (vi 0)] [] mem Q) : Y cX7_copyPlaces 4 RX7 (d + 1) sx 0 [some (vr 7 j0), some (vr 300 0), some (vr 301 0), none] [] mem Q := by
  refine a_iconst (k := 0) dX7_copyPlaces_0 (n_lit (by decide)) ?_
  refine a_istore_n dX7_copyPlaces_1 rfl (by decide) rfl ?_
  exact h
set_option maxRecDepth 10000 in
theorem sg_X7_copyPlaces_h_2 {d : Nat} {sx : Option (List Int)} (j0 : Nat) (a3 : Int) (mem : AMem) (Q : Option AV → AMem → Prop) (h : ((7 : Int) ≤ a3 → (Q none mem)) ∧ (¬ (7 : Int) ≤ a3 → ((0 ≤ a3 ∧ a3 < 7) ∧ ((0 ≤ a3 ∧ a3 < 7) ∧ ((0 ≤ a3 ∧ a3 < 7) ∧ ((0 ≤ a3 ∧ a3 < 7) ∧ (Y cX7_copyPlaces 4 RX7 (d + 1) sx 2 [some (vr 7 j0), some (vr 300 0), some (vr 301 0), some (vi (w32 (a3 + 1)))] [] (upM (upM mem 800 j0 a3 (mem 300 0 a3)) 801 j0 a3 (mem 301 0 a3)) Q))))))) : Y cX7_copyPlaces 4 RX7 (d + 1) sx 2 [some (vr 7 j0), some (vr 300 0), some (vr 301 0), some (vi a3)] [] mem Q := by
  refine a_iload_n dX7_copyPlaces_2 rfl rfl ?_
  refine a_bipush (k := 7) dX7_copyPlaces_3 (by decide) (n_lit (by decide)) ?_
  refine a_icmp_ge (tgt := 32) dX7_copyPlaces_5 (by decide) ⟨fun c1 => ?_, fun c1 => ?_⟩
  · exact a_vret dX7_copyPlaces_32 (h.1 c1)
  · refine a_aload_n dX7_copyPlaces_8 rfl rfl ?_
    refine gf_X7_9 dX7_copyPlaces_9 ?_
    refine a_iload_n dX7_copyPlaces_12 rfl rfl ?_
    refine a_aload_n dX7_copyPlaces_13 rfl rfl ?_
    refine a_iload_n dX7_copyPlaces_14 rfl rfl ?_
    refine a_iald rfl rfl (by decide) rfl dX7_copyPlaces_15 ⟨(h.2 c1).1, ?_⟩
    refine a_iast rfl rfl (by decide) rfl dX7_copyPlaces_16 ⟨(h.2 c1).2.1, ?_⟩
    refine a_aload_n dX7_copyPlaces_17 rfl rfl ?_
    refine gf_X7_15 dX7_copyPlaces_18 ?_
    refine a_iload_n dX7_copyPlaces_21 rfl rfl ?_
    refine a_aload_n dX7_copyPlaces_22 rfl rfl ?_
    refine a_iload_n dX7_copyPlaces_23 rfl rfl ?_
    refine a_iald rfl rfl (by decide) rfl dX7_copyPlaces_24 ⟨(h.2 c1).2.2.1, ?_⟩
    refine a_iast rfl rfl (by decide) rfl dX7_copyPlaces_25 ⟨(h.2 c1).2.2.2.1, ?_⟩
    refine a_iinc dX7_copyPlaces_26 rfl (by decide) rfl ?_
    refine a_goto (tgt := 2) dX7_copyPlaces_29 (by decide) ?_
    exact (h.2 c1).2.2.2.2
set_option maxRecDepth 10000 in
theorem sg_X7_copyPlaces_s_0 {d : Nat} {sx : Option (List Int)} (j0 : Nat) (j1 : Nat) (j2 : Nat) (mem : AMem) (Q : Option AV → AMem → Prop) (h : Y cX7_copyPlaces 4 RX7 (d + 1) sx 2 [some (vr 7 j0), some (vr 800 j1), some (vr 801 j2), some (vi 0)] [] mem Q) : Y cX7_copyPlaces 4 RX7 (d + 1) sx 0 [some (vr 7 j0), some (vr 800 j1), some (vr 801 j2), none] [] mem Q := by
  refine a_iconst (k := 0) dX7_copyPlaces_0 (n_lit (by decide)) ?_
  refine a_istore_n dX7_copyPlaces_1 rfl (by decide) rfl ?_
  exact h
set_option maxRecDepth 10000 in
theorem sg_X7_copyPlaces_s_2 {d : Nat} {sx : Option (List Int)} (j0 : Nat) (j1 : Nat) (j2 : Nat) (a3 : Int) (mem : AMem) (Q : Option AV → AMem → Prop) (h : ((7 : Int) ≤ a3 → (Q none mem)) ∧ (¬ (7 : Int) ≤ a3 → ((0 ≤ a3 ∧ a3 < 7) ∧ ((0 ≤ a3 ∧ a3 < 7) ∧ ((0 ≤ a3 ∧ a3 < 7) ∧ ((0 ≤ a3 ∧ a3 < 7) ∧ (Y cX7_copyPlaces 4 RX7 (d + 1) sx 2 [some (vr 7 j0), some (vr 800 j1), some (vr 801 j2), some (vi (w32 (a3 + 1)))] [] (upM (upM mem 800 j0 a3 (mem 800 j1 a3)) 801 j0 a3 (mem 801 j2 a3)) Q))))))) : Y cX7_copyPlaces 4 RX7 (d + 1) sx 2 [some (vr 7 j0), some (vr 800 j1), some (vr 801 j2), some (vi a3)] [] mem Q := by
  refine a_iload_n dX7_copyPlaces_2 rfl rfl ?_
  refine a_bipush (k := 7) dX7_copyPlaces_3 (by decide) (n_lit (by decide)) ?_
  refine a_icmp_ge (tgt := 32) dX7_copyPlaces_5 (by decide) ⟨fun c1 => ?_, fun c1 => ?_⟩
  · exact a_vret dX7_copyPlaces_32 (h.1 c1)
  · refine a_aload_n dX7_copyPlaces_8 rfl rfl ?_
    refine gf_X7_9 dX7_copyPlaces_9 ?_
    refine a_iload_n dX7_copyPlaces_12 rfl rfl ?_
    refine a_aload_n dX7_copyPlaces_13 rfl rfl ?_
    refine a_iload_n dX7_copyPlaces_14 rfl rfl ?_
    refine a_iald rfl rfl (by decide) rfl dX7_copyPlaces_15 ⟨(h.2 c1).1, ?_⟩
    refine a_iast rfl rfl (by decide) rfl dX7_copyPlaces_16 ⟨(h.2 c1).2.1, ?_⟩
    refine a_aload_n dX7_copyPlaces_17 rfl rfl ?_
    refine gf_X7_15 dX7_copyPlaces_18 ?_
    refine a_iload_n dX7_copyPlaces_21 rfl rfl ?_
    refine a_aload_n dX7_copyPlaces_22 rfl rfl ?_
    refine a_iload_n dX7_copyPlaces_23 rfl rfl ?_
    refine a_iald rfl rfl (by decide) rfl dX7_copyPlaces_24 ⟨(h.2 c1).2.2.1, ?_⟩
    refine a_iast rfl rfl (by decide) rfl dX7_copyPlaces_25 ⟨(h.2 c1).2.2.2.1, ?_⟩
    refine a_iinc dX7_copyPlaces_26 rfl (by decide) rfl ?_
    refine a_goto (tgt := 2) dX7_copyPlaces_29 (by decide) ?_
    exact (h.2 c1).2.2.2.2
set_option maxRecDepth 10000 in
theorem sg_X7_play_0 {d : Nat} {sx : Option (List Int)} (j0 : Nat) (j2 : Nat) (mem : AMem) (Q : Option AV → AMem → Prop) (h : Y cX7_play 4 RX7 (d + 1) sx 2 [some (vr 7 j0), some (vr 2 0), some (vr 10 j2), some (vi 0)] [] mem Q) : Y cX7_play 4 RX7 (d + 1) sx 0 [some (vr 7 j0), some (vr 2 0), some (vr 10 j2), none] [] mem Q := by
  refine a_iconst (k := 0) dX7_play_0 (n_lit (by decide)) ?_
  refine a_istore_n dX7_play_1 rfl (by decide) rfl ?_
  exact h
set_option maxRecDepth 10000 in
theorem sg_X7_play_2 {d : Nat} {sx : Option (List Int)} (j0 : Nat) (j2 : Nat) (a3 : Int) (mem : AMem) (Q : Option AV → AMem → Prop) (h : ((mem 7 j0 6) ≤ a3 → (MtX yX7_endOfBreath cX7_endOfBreath 1 none d [vr 7 j0] mem (fun r m2 => r = none ∧ (Q none m2)))) ∧ (¬ (mem 7 j0 6) ≤ a3 → (((mem 7 j0 13) ≠ (0 : Int) → (MtX yX7_endOfBreath cX7_endOfBreath 1 none d [vr 7 j0] mem (fun r m5 => r = none ∧ (Q none m5)))) ∧ ((mem 7 j0 13) = (0 : Int) → (MtX yX10_moveAt cX10_moveAt 2 (some .int) d [vr 10 j2, vi a3] mem (fun r m7 => ∃ x9 : Int, r = some (vi x9) ∧ (MtX yX7_second cX7_second 6 none d [vr 7 j0, vr 2 0, vi x9] m7 (fun r m10 => r = none ∧ (Y cX7_play 4 RX7 (d + 1) sx 2 [some (vr 7 j0), some (vr 2 0), some (vr 10 j2), some (vi (w32 (a3 + 1)))] [] m10 Q))))))))) : Y cX7_play 4 RX7 (d + 1) sx 2 [some (vr 7 j0), some (vr 2 0), some (vr 10 j2), some (vi a3)] [] mem Q := by
  refine a_iload_n dX7_play_2 rfl rfl ?_
  refine a_aload_n dX7_play_3 rfl rfl ?_
  refine gf_X7_45 (x := mem 7 j0 6) rfl dX7_play_4 ?_
  refine a_icmp_ge (tgt := 33) dX7_play_7 (by decide) ⟨fun c1 => ?_, fun c1 => ?_⟩
  · refine a_aload_n dX7_play_33 rfl rfl ?_
    refine iv_X7_79 dX7_play_34 (Nat.le_of_ble_eq_true rfl) (MtX_mono (h.1 c1) (fun r m2 hq => ?_))
    obtain ⟨rfl, h3⟩ := hq
    refine ⟨rfl, ?_⟩
    exact a_vret dX7_play_37 h3
  · refine a_aload_n dX7_play_10 rfl rfl ?_
    refine gf_X7_66 (x := mem 7 j0 13) rfl dX7_play_11 ?_
    refine a_if_ne (tgt := 33) dX7_play_14 (by decide) ⟨fun c4 => ?_, fun c4 => ?_⟩
    · refine a_aload_n dX7_play_33 rfl rfl ?_
      refine iv_X7_79 dX7_play_34 (Nat.le_of_ble_eq_true rfl) (MtX_mono ((h.2 c1).1 c4) (fun r m5 hq => ?_))
      obtain ⟨rfl, h6⟩ := hq
      refine ⟨rfl, ?_⟩
      exact a_vret dX7_play_37 h6
    · refine a_aload_n dX7_play_17 rfl rfl ?_
      refine a_aload_n dX7_play_18 rfl rfl ?_
      refine a_aload_n dX7_play_19 rfl rfl ?_
      refine a_iload_n dX7_play_20 rfl rfl ?_
      refine iv_X7_69 dX7_play_21 (Nat.le_of_ble_eq_true rfl) (MtX_mono ((h.2 c1).2 c4) (fun r m7 hq => ?_))
      obtain ⟨x9, rfl, h8⟩ := hq
      refine ⟨x9, rfl, ?_⟩
      refine iv_X7_75 dX7_play_24 (Nat.le_of_ble_eq_true rfl) (MtX_mono h8 (fun r m10 hq => ?_))
      obtain ⟨rfl, h11⟩ := hq
      refine ⟨rfl, ?_⟩
      refine a_iinc dX7_play_27 rfl (by decide) rfl ?_
      refine a_goto (tgt := 2) dX7_play_30 (by decide) ?_
      exact h11
set_option maxRecDepth 10000 in
theorem sg_X7_playDrawn_0 {d : Nat} {sx : Option (List Int)} (j0 : Nat) (a2 : Int) (mem : AMem) (Q : Option AV → AMem → Prop) (h : Y cX7_playDrawn 6 RX7 (d + 1) sx 5 [some (vr 7 j0), some (vr 2 0), some (vi a2), some (vi a2), some (vi 0), none] [] mem Q) : Y cX7_playDrawn 6 RX7 (d + 1) sx 0 [some (vr 7 j0), some (vr 2 0), some (vi a2), none, none, none] [] mem Q := by
  refine a_iload_n dX7_playDrawn_0 rfl rfl ?_
  refine a_istore_n dX7_playDrawn_1 rfl (by decide) rfl ?_
  refine a_iconst (k := 0) dX7_playDrawn_2 (n_lit (by decide)) ?_
  refine a_istore dX7_playDrawn_3 (by decide) rfl ?_
  exact h
set_option maxRecDepth 10000 in
theorem sg_X7_playDrawn_5 {d : Nat} {sx : Option (List Int)} (j0 : Nat) (a2 : Int) (a3 : Int) (a4 : Int) (mem : AMem) (Q : Option AV → AMem → Prop) (h : ((mem 7 j0 6) ≤ a4 → (MtX yX7_endOfBreath cX7_endOfBreath 1 none d [vr 7 j0] mem (fun r m2 => r = none ∧ (Q (some (vi a3)) m2)))) ∧ (¬ (mem 7 j0 6) ≤ a4 → (((mem 7 j0 13) ≠ (0 : Int) → (MtX yX7_endOfBreath cX7_endOfBreath 1 none d [vr 7 j0] mem (fun r m5 => r = none ∧ (Q (some (vi a3)) m5)))) ∧ ((mem 7 j0 13) = (0 : Int) → ((0 ≤ (8 : Int) ∧ (8 : Int) < 14) ∧ (((mem 7 j0 9) < (mem 303 0 8) → (Y cX7_playDrawn 6 RX7 (d + 1) sx 53 [some (vr 7 j0), some (vr 2 0), some (vi a2), some (vi (w32 ((w32 (a3 * 1103515245)) + 12345))), some (vi a4), none] [] mem Q)) ∧ (¬ (mem 7 j0 9) < (mem 303 0 8) → (((an32 (ushr32 (w32 ((w32 (a3 * 1103515245)) + 12345)) 16) 1) ≠ (0 : Int) → (((0 : Int) = (0 : Int) → (MtX yX7_second cX7_second 6 none d [vr 7 j0, vr 2 0, vi 2] mem (fun r m10 => r = none ∧ (Y cX7_playDrawn 6 RX7 (d + 1) sx 5 [some (vr 7 j0), some (vr 2 0), some (vi a2), some (vi (w32 ((w32 (a3 * 1103515245)) + 12345))), some (vi (w32 (a4 + 1))), some (vi 0)] [] m10 Q)))) ∧ (¬ (0 : Int) = (0 : Int) → (MtX yX7_second cX7_second 6 none d [vr 7 j0, vr 2 0, vi (Int.tmod (ushr32 (w32 ((w32 (a3 * 1103515245)) + 12345)) 8) 5)] mem (fun r m12 => r = none ∧ (Y cX7_playDrawn 6 RX7 (d + 1) sx 5 [some (vr 7 j0), some (vr 2 0), some (vi a2), some (vi (w32 ((w32 (a3 * 1103515245)) + 12345))), some (vi (w32 (a4 + 1))), some (vi 0)] [] m12 Q)))))) ∧ ((an32 (ushr32 (w32 ((w32 (a3 * 1103515245)) + 12345)) 16) 1) = (0 : Int) → (Y cX7_playDrawn 6 RX7 (d + 1) sx 53 [some (vr 7 j0), some (vr 2 0), some (vi a2), some (vi (w32 ((w32 (a3 * 1103515245)) + 12345))), some (vi a4), none] [] mem Q)))))))))) : Y cX7_playDrawn 6 RX7 (d + 1) sx 5 [some (vr 7 j0), some (vr 2 0), some (vi a2), some (vi a3), some (vi a4), none] [] mem Q := by
  refine a_iload dX7_playDrawn_5 rfl ?_
  refine a_aload_n dX7_playDrawn_7 rfl rfl ?_
  refine gf_X7_45 (x := mem 7 j0 6) rfl dX7_playDrawn_8 ?_
  refine a_icmp_ge (tgt := 86) dX7_playDrawn_11 (by decide) ⟨fun c1 => ?_, fun c1 => ?_⟩
  · refine a_aload_n dX7_playDrawn_86 rfl rfl ?_
    refine iv_X7_79 dX7_playDrawn_87 (Nat.le_of_ble_eq_true rfl) (MtX_mono (h.1 c1) (fun r m2 hq => ?_))
    obtain ⟨rfl, h3⟩ := hq
    refine ⟨rfl, ?_⟩
    refine a_iload_n dX7_playDrawn_90 rfl rfl ?_
    exact a_iret dX7_playDrawn_91 h3
  · refine a_aload_n dX7_playDrawn_14 rfl rfl ?_
    refine gf_X7_66 (x := mem 7 j0 13) rfl dX7_playDrawn_15 ?_
    refine a_if_ne (tgt := 86) dX7_playDrawn_18 (by decide) ⟨fun c4 => ?_, fun c4 => ?_⟩
    · refine a_aload_n dX7_playDrawn_86 rfl rfl ?_
      refine iv_X7_79 dX7_playDrawn_87 (Nat.le_of_ble_eq_true rfl) (MtX_mono ((h.2 c1).1 c4) (fun r m5 hq => ?_))
      obtain ⟨rfl, h6⟩ := hq
      refine ⟨rfl, ?_⟩
      refine a_iload_n dX7_playDrawn_90 rfl rfl ?_
      exact a_iret dX7_playDrawn_91 h6
    · refine a_iload_n dX7_playDrawn_21 rfl rfl ?_
      refine a_ldc (k := 1103515245) co_X7_82 (n_lit (by decide)) dX7_playDrawn_22 ?_
      refine a_imul dX7_playDrawn_24 ?_
      refine a_sipush (k := 12345) dX7_playDrawn_25 (by decide) (n_lit (by decide)) ?_
      refine a_iadd dX7_playDrawn_28 ?_
      refine a_istore_n dX7_playDrawn_29 rfl (by decide) rfl ?_
      refine a_aload_n dX7_playDrawn_30 rfl rfl ?_
      refine gf_X7_54 (x := mem 7 j0 9) rfl dX7_playDrawn_31 ?_
      refine a_aload_n dX7_playDrawn_34 rfl rfl ?_
      refine gf_X7_36 dX7_playDrawn_35 ?_
      refine a_bipush (k := 8) dX7_playDrawn_38 (by decide) (n_lit (by decide)) ?_
      refine a_iald rfl rfl (by decide) rfl dX7_playDrawn_40 ⟨((h.2 c1).2 c4).1, ?_⟩
      refine a_icmp_lt (tgt := 53) dX7_playDrawn_41 (by decide) ⟨fun c7 => ?_, fun c7 => ?_⟩
      · exact (((h.2 c1).2 c4).2.1 c7)
      · refine a_iload_n dX7_playDrawn_44 rfl rfl ?_
        refine a_bipush (k := 16) dX7_playDrawn_45 (by decide) (n_lit (by decide)) ?_
        refine a_iushr dX7_playDrawn_47 ?_
        refine a_iconst (k := 1) dX7_playDrawn_48 (n_lit (by decide)) ?_
        refine a_iand dX7_playDrawn_49 ?_
        refine a_if_ne (tgt := 57) dX7_playDrawn_50 (by decide) ⟨fun c8 => ?_, fun c8 => ?_⟩
        · refine a_iconst (k := 0) dX7_playDrawn_57 (n_lit (by decide)) ?_
          refine a_istore dX7_playDrawn_58 (by decide) rfl ?_
          refine a_aload_n dX7_playDrawn_60 rfl rfl ?_
          refine a_aload_n dX7_playDrawn_61 rfl rfl ?_
          refine a_iload dX7_playDrawn_62 rfl ?_
          refine a_if_eq (tgt := 76) dX7_playDrawn_64 (by decide) ⟨fun c9 => ?_, fun c9 => ?_⟩
          · refine a_iconst (k := 2) dX7_playDrawn_76 (n_lit (by decide)) ?_
            refine iv_X7_75 dX7_playDrawn_77 (Nat.le_of_ble_eq_true rfl) (MtX_mono (((((h.2 c1).2 c4).2.2 c7).1 c8).1 c9) (fun r m10 hq => ?_))
            obtain ⟨rfl, h11⟩ := hq
            refine ⟨rfl, ?_⟩
            refine a_iinc dX7_playDrawn_80 rfl (by decide) rfl ?_
            refine a_goto (tgt := 5) dX7_playDrawn_83 (by decide) ?_
            exact h11
          · refine a_iload_n dX7_playDrawn_67 rfl rfl ?_
            refine a_bipush (k := 8) dX7_playDrawn_68 (by decide) (n_lit (by decide)) ?_
            refine a_iushr dX7_playDrawn_70 ?_
            refine a_iconst (k := 5) dX7_playDrawn_71 (n_lit (by decide)) ?_
            refine a_irem dX7_playDrawn_72 (by decide) ?_
            refine a_goto (tgt := 77) dX7_playDrawn_73 (by decide) ?_
            refine iv_X7_75 dX7_playDrawn_77 (Nat.le_of_ble_eq_true rfl) (MtX_mono (((((h.2 c1).2 c4).2.2 c7).1 c8).2 c9) (fun r m12 hq => ?_))
            obtain ⟨rfl, h13⟩ := hq
            refine ⟨rfl, ?_⟩
            refine a_iinc dX7_playDrawn_80 rfl (by decide) rfl ?_
            refine a_goto (tgt := 5) dX7_playDrawn_83 (by decide) ?_
            exact h13
        · exact ((((h.2 c1).2 c4).2.2 c7).2 c8)
set_option maxRecDepth 10000 in
theorem sg_X7_playDrawn_53 {d : Nat} {sx : Option (List Int)} (j0 : Nat) (a2 : Int) (a3 : Int) (a4 : Int) (mem : AMem) (Q : Option AV → AMem → Prop) (h : ((1 : Int) = (0 : Int) → (MtX yX7_second cX7_second 6 none d [vr 7 j0, vr 2 0, vi 2] mem (fun r m2 => r = none ∧ (Y cX7_playDrawn 6 RX7 (d + 1) sx 5 [some (vr 7 j0), some (vr 2 0), some (vi a2), some (vi a3), some (vi (w32 (a4 + 1))), some (vi 1)] [] m2 Q)))) ∧ (¬ (1 : Int) = (0 : Int) → (MtX yX7_second cX7_second 6 none d [vr 7 j0, vr 2 0, vi (Int.tmod (ushr32 a3 8) 5)] mem (fun r m4 => r = none ∧ (Y cX7_playDrawn 6 RX7 (d + 1) sx 5 [some (vr 7 j0), some (vr 2 0), some (vi a2), some (vi a3), some (vi (w32 (a4 + 1))), some (vi 1)] [] m4 Q))))) : Y cX7_playDrawn 6 RX7 (d + 1) sx 53 [some (vr 7 j0), some (vr 2 0), some (vi a2), some (vi a3), some (vi a4), none] [] mem Q := by
  refine a_iconst (k := 1) dX7_playDrawn_53 (n_lit (by decide)) ?_
  refine a_goto (tgt := 58) dX7_playDrawn_54 (by decide) ?_
  refine a_istore dX7_playDrawn_58 (by decide) rfl ?_
  refine a_aload_n dX7_playDrawn_60 rfl rfl ?_
  refine a_aload_n dX7_playDrawn_61 rfl rfl ?_
  refine a_iload dX7_playDrawn_62 rfl ?_
  refine a_if_eq (tgt := 76) dX7_playDrawn_64 (by decide) ⟨fun c1 => ?_, fun c1 => ?_⟩
  · refine a_iconst (k := 2) dX7_playDrawn_76 (n_lit (by decide)) ?_
    refine iv_X7_75 dX7_playDrawn_77 (Nat.le_of_ble_eq_true rfl) (MtX_mono (h.1 c1) (fun r m2 hq => ?_))
    obtain ⟨rfl, h3⟩ := hq
    refine ⟨rfl, ?_⟩
    refine a_iinc dX7_playDrawn_80 rfl (by decide) rfl ?_
    refine a_goto (tgt := 5) dX7_playDrawn_83 (by decide) ?_
    exact h3
  · refine a_iload_n dX7_playDrawn_67 rfl rfl ?_
    refine a_bipush (k := 8) dX7_playDrawn_68 (by decide) (n_lit (by decide)) ?_
    refine a_iushr dX7_playDrawn_70 ?_
    refine a_iconst (k := 5) dX7_playDrawn_71 (n_lit (by decide)) ?_
    refine a_irem dX7_playDrawn_72 (by decide) ?_
    refine a_goto (tgt := 77) dX7_playDrawn_73 (by decide) ?_
    refine iv_X7_75 dX7_playDrawn_77 (Nat.le_of_ble_eq_true rfl) (MtX_mono (h.2 c1) (fun r m4 hq => ?_))
    obtain ⟨rfl, h5⟩ := hq
    refine ⟨rfl, ?_⟩
    refine a_iinc dX7_playDrawn_80 rfl (by decide) rfl ?_
    refine a_goto (tgt := 5) dX7_playDrawn_83 (by decide) ?_
    exact h5
set_option maxRecDepth 10000 in
theorem sg_X7_giveUpIfTooLate_0 {d : Nat} {sx : Option (List Int)} (j0 : Nat) (mem : AMem) (Q : Option AV → AMem → Prop) (h : ((mem 7 j0 13) ≠ (0 : Int) → (Q none mem)) ∧ ((mem 7 j0 13) = (0 : Int) → (((mem 7 j0 5) = (0 : Int) → (Q none (upM mem 7 j0 13 3))) ∧ (¬ (mem 7 j0 5) = (0 : Int) → (((mem 7 j0 5) ≤ (w32 ((mem 7 j0 6) - (mem 7 j0 8))) → (Q none mem)) ∧ (¬ (mem 7 j0 5) ≤ (w32 ((mem 7 j0 6) - (mem 7 j0 8))) → (Q none (upM mem 7 j0 13 3)))))))) : Y cX7_giveUpIfTooLate 1 RX7 (d + 1) sx 0 [some (vr 7 j0)] [] mem Q := by
  refine a_aload_n dX7_giveUpIfTooLate_0 rfl rfl ?_
  refine gf_X7_66 (x := mem 7 j0 13) rfl dX7_giveUpIfTooLate_1 ?_
  refine a_if_ne (tgt := 35) dX7_giveUpIfTooLate_4 (by decide) ⟨fun c1 => ?_, fun c1 => ?_⟩
  · exact a_vret dX7_giveUpIfTooLate_35 (h.1 c1)
  · refine a_aload_n dX7_giveUpIfTooLate_7 rfl rfl ?_
    refine gf_X7_42 (x := mem 7 j0 5) rfl dX7_giveUpIfTooLate_8 ?_
    refine a_if_eq (tgt := 30) dX7_giveUpIfTooLate_11 (by decide) ⟨fun c2 => ?_, fun c2 => ?_⟩
    · refine a_aload_n dX7_giveUpIfTooLate_30 rfl rfl ?_
      refine a_iconst (k := 3) dX7_giveUpIfTooLate_31 (n_lit (by decide)) ?_
      refine pf_X7_66 dX7_giveUpIfTooLate_32 ?_
      exact a_vret dX7_giveUpIfTooLate_35 ((h.2 c1).1 c2)
    · refine a_aload_n dX7_giveUpIfTooLate_14 rfl rfl ?_
      refine gf_X7_42 (x := mem 7 j0 5) rfl dX7_giveUpIfTooLate_15 ?_
      refine a_aload_n dX7_giveUpIfTooLate_18 rfl rfl ?_
      refine gf_X7_45 (x := mem 7 j0 6) rfl dX7_giveUpIfTooLate_19 ?_
      refine a_aload_n dX7_giveUpIfTooLate_22 rfl rfl ?_
      refine gf_X7_51 (x := mem 7 j0 8) rfl dX7_giveUpIfTooLate_23 ?_
      refine a_isub dX7_giveUpIfTooLate_26 ?_
      refine a_icmp_le (tgt := 35) dX7_giveUpIfTooLate_27 (by decide) ⟨fun c3 => ?_, fun c3 => ?_⟩
      · exact a_vret dX7_giveUpIfTooLate_35 (((h.2 c1).2 c2).1 c3)
      · refine a_aload_n dX7_giveUpIfTooLate_30 rfl rfl ?_
        refine a_iconst (k := 3) dX7_giveUpIfTooLate_31 (n_lit (by decide)) ?_
        refine pf_X7_66 dX7_giveUpIfTooLate_32 ?_
        exact a_vret dX7_giveUpIfTooLate_35 (((h.2 c1).2 c2).2 c3)
set_option maxRecDepth 10000 in
theorem sg_X7_endOfBreath_0 {d : Nat} {sx : Option (List Int)} (j0 : Nat) (mem : AMem) (Q : Option AV → AMem → Prop) (h : ((mem 7 j0 13) ≠ (0 : Int) → (Q none mem)) ∧ ((mem 7 j0 13) = (0 : Int) → (Q none (upM mem 7 j0 13 3)))) : Y cX7_endOfBreath 1 RX7 (d + 1) sx 0 [some (vr 7 j0)] [] mem Q := by
  refine a_aload_n dX7_endOfBreath_0 rfl rfl ?_
  refine gf_X7_66 (x := mem 7 j0 13) rfl dX7_endOfBreath_1 ?_
  refine a_if_ne (tgt := 12) dX7_endOfBreath_4 (by decide) ⟨fun c1 => ?_, fun c1 => ?_⟩
  · exact a_vret dX7_endOfBreath_12 (h.1 c1)
  · refine a_aload_n dX7_endOfBreath_7 rfl rfl ?_
    refine a_iconst (k := 3) dX7_endOfBreath_8 (n_lit (by decide)) ?_
    refine pf_X7_66 dX7_endOfBreath_9 ?_
    exact a_vret dX7_endOfBreath_12 (h.2 c1)
set_option maxRecDepth 10000 in
theorem sg_X7_second_0 {d : Nat} {sx : Option (List Int)} (j0 : Nat) (a2 : Int) (mem : AMem) (Q : Option AV → AMem → Prop) (h : ((mem 7 j0 5) ≤ (0 : Int) → (MtX yX7_step cX7_step 2 none d [vr 7 j0, vi a2] mem (fun r m2 => r = none ∧ (((m2 7 j0 5) ≠ (0 : Int) → (Y cX7_second 6 RX7 (d + 1) sx 56 [some (vr 7 j0), some (vr 2 0), some (vi a2), some (vi 0), some (vi (mem 7 j0 8)), none] [] (upM (upM m2 7 j0 8 (w32 ((m2 7 j0 8) + 1))) 7 j0 11 0) Q)) ∧ ((m2 7 j0 5) = (0 : Int) → (((0 : Int) = (0 : Int) → (Y cX7_second 6 RX7 (d + 1) sx 56 [some (vr 7 j0), some (vr 2 0), some (vi a2), some (vi 0), some (vi (mem 7 j0 8)), none] [] (upM (upM m2 7 j0 8 (w32 ((m2 7 j0 8) + 1))) 7 j0 11 0) Q)) ∧ (¬ (0 : Int) = (0 : Int) → (Q none (upM (upM (upM m2 7 j0 8 (w32 ((m2 7 j0 8) + 1))) 7 j0 11 0) 7 j0 13 1))))))))) ∧ (¬ (mem 7 j0 5) ≤ (0 : Int) → (MtX yX7_step cX7_step 2 none d [vr 7 j0, vi a2] mem (fun r m6 => r = none ∧ (((m6 7 j0 5) ≠ (0 : Int) → (Y cX7_second 6 RX7 (d + 1) sx 56 [some (vr 7 j0), some (vr 2 0), some (vi a2), some (vi 1), some (vi (mem 7 j0 8)), none] [] (upM (upM m6 7 j0 8 (w32 ((m6 7 j0 8) + 1))) 7 j0 11 0) Q)) ∧ ((m6 7 j0 5) = (0 : Int) → (((1 : Int) = (0 : Int) → (Y cX7_second 6 RX7 (d + 1) sx 56 [some (vr 7 j0), some (vr 2 0), some (vi a2), some (vi 1), some (vi (mem 7 j0 8)), none] [] (upM (upM m6 7 j0 8 (w32 ((m6 7 j0 8) + 1))) 7 j0 11 0) Q)) ∧ (¬ (1 : Int) = (0 : Int) → (Q none (upM (upM (upM m6 7 j0 8 (w32 ((m6 7 j0 8) + 1))) 7 j0 11 0) 7 j0 13 1)))))))))) : Y cX7_second 6 RX7 (d + 1) sx 0 [some (vr 7 j0), some (vr 2 0), some (vi a2), none, none, none] [] mem Q := by
  refine a_aload_n dX7_second_0 rfl rfl ?_
  refine gf_X7_42 (x := mem 7 j0 5) rfl dX7_second_1 ?_
  refine a_if_le (tgt := 11) dX7_second_4 (by decide) ⟨fun c1 => ?_, fun c1 => ?_⟩
  · refine a_iconst (k := 0) dX7_second_11 (n_lit (by decide)) ?_
    refine a_istore_n dX7_second_12 rfl (by decide) rfl ?_
    refine a_aload_n dX7_second_13 rfl rfl ?_
    refine gf_X7_51 (x := mem 7 j0 8) rfl dX7_second_14 ?_
    refine a_istore dX7_second_17 (by decide) rfl ?_
    refine a_aload_n dX7_second_19 rfl rfl ?_
    refine a_iload_n dX7_second_20 rfl rfl ?_
    refine iv_X7_83 dX7_second_21 (Nat.le_of_ble_eq_true rfl) (MtX_mono (h.1 c1) (fun r m2 hq => ?_))
    obtain ⟨rfl, h3⟩ := hq
    refine ⟨rfl, ?_⟩
    refine a_aload_n dX7_second_24 rfl rfl ?_
    refine a_dup dX7_second_25 rfl ?_
    refine gf_X7_51 (x := m2 7 j0 8) rfl dX7_second_26 ?_
    refine a_iconst (k := 1) dX7_second_29 (n_lit (by decide)) ?_
    refine a_iadd dX7_second_30 ?_
    refine pf_X7_51 dX7_second_31 ?_
    refine a_aload_n dX7_second_34 rfl rfl ?_
    refine a_iconst (k := 0) dX7_second_35 (n_lit (by decide)) ?_
    refine pf_X7_60 dX7_second_36 ?_
    refine a_aload_n dX7_second_39 rfl rfl ?_
    refine gf_X7_42 (x := m2 7 j0 5) (by simp [upM]) dX7_second_40 ?_
    refine a_if_ne (tgt := 56) dX7_second_43 (by decide) ⟨fun c4 => ?_, fun c4 => ?_⟩
    · exact (h3.1 c4)
    · refine a_iload_n dX7_second_46 rfl rfl ?_
      refine a_if_eq (tgt := 56) dX7_second_47 (by decide) ⟨fun c5 => ?_, fun c5 => ?_⟩
      · exact ((h3.2 c4).1 c5)
      · refine a_aload_n dX7_second_50 rfl rfl ?_
        refine a_iconst (k := 1) dX7_second_51 (n_lit (by decide)) ?_
        refine pf_X7_66 dX7_second_52 ?_
        exact a_vret dX7_second_55 ((h3.2 c4).2 c5)
  · refine a_iconst (k := 1) dX7_second_7 (n_lit (by decide)) ?_
    refine a_goto (tgt := 12) dX7_second_8 (by decide) ?_
    refine a_istore_n dX7_second_12 rfl (by decide) rfl ?_
    refine a_aload_n dX7_second_13 rfl rfl ?_
    refine gf_X7_51 (x := mem 7 j0 8) rfl dX7_second_14 ?_
    refine a_istore dX7_second_17 (by decide) rfl ?_
    refine a_aload_n dX7_second_19 rfl rfl ?_
    refine a_iload_n dX7_second_20 rfl rfl ?_
    refine iv_X7_83 dX7_second_21 (Nat.le_of_ble_eq_true rfl) (MtX_mono (h.2 c1) (fun r m6 hq => ?_))
    obtain ⟨rfl, h7⟩ := hq
    refine ⟨rfl, ?_⟩
    refine a_aload_n dX7_second_24 rfl rfl ?_
    refine a_dup dX7_second_25 rfl ?_
    refine gf_X7_51 (x := m6 7 j0 8) rfl dX7_second_26 ?_
    refine a_iconst (k := 1) dX7_second_29 (n_lit (by decide)) ?_
    refine a_iadd dX7_second_30 ?_
    refine pf_X7_51 dX7_second_31 ?_
    refine a_aload_n dX7_second_34 rfl rfl ?_
    refine a_iconst (k := 0) dX7_second_35 (n_lit (by decide)) ?_
    refine pf_X7_60 dX7_second_36 ?_
    refine a_aload_n dX7_second_39 rfl rfl ?_
    refine gf_X7_42 (x := m6 7 j0 5) (by simp [upM]) dX7_second_40 ?_
    refine a_if_ne (tgt := 56) dX7_second_43 (by decide) ⟨fun c8 => ?_, fun c8 => ?_⟩
    · exact (h7.1 c8)
    · refine a_iload_n dX7_second_46 rfl rfl ?_
      refine a_if_eq (tgt := 56) dX7_second_47 (by decide) ⟨fun c9 => ?_, fun c9 => ?_⟩
      · exact ((h7.2 c8).1 c9)
      · refine a_aload_n dX7_second_50 rfl rfl ?_
        refine a_iconst (k := 1) dX7_second_51 (n_lit (by decide)) ?_
        refine pf_X7_66 dX7_second_52 ?_
        exact a_vret dX7_second_55 ((h7.2 c8).2 c9)
set_option maxRecDepth 10000 in
theorem sg_X7_second_56 {d : Nat} {sx : Option (List Int)} (j0 : Nat) (a2 : Int) (a3 : Int) (a4 : Int) (mem : AMem) (Q : Option AV → AMem → Prop) (h : MtX yX7_reachOut cX7_reachOut 4 none d [vr 7 j0, vr 2 0] (upM mem 7 j0 9 (max (mem 7 j0 9) (mem 7 j0 5))) (fun r m1 => r = none ∧ (MtX yX7_theyAct cX7_theyAct 6 (some .int) d [vr 7 j0, vr 2 0, vi a4] m1 (fun r m3 => ∃ x5 : Int, r = some (vi x5) ∧ ((x5 ≤ (m3 7 j0 7) → (Q none (upM m3 7 j0 12 (max (m3 7 j0 12) x5)))) ∧ (¬ x5 ≤ (m3 7 j0 7) → (Q none (upM (upM m3 7 j0 12 (max (m3 7 j0 12) x5)) 7 j0 13 2)))))))) : Y cX7_second 6 RX7 (d + 1) sx 56 [some (vr 7 j0), some (vr 2 0), some (vi a2), some (vi a3), some (vi a4), none] [] mem Q := by
  refine a_aload_n dX7_second_56 rfl rfl ?_
  refine a_aload_n dX7_second_57 rfl rfl ?_
  refine gf_X7_54 (x := mem 7 j0 9) rfl dX7_second_58 ?_
  refine a_aload_n dX7_second_61 rfl rfl ?_
  refine gf_X7_42 (x := mem 7 j0 5) rfl dX7_second_62 ?_
  refine a_max ml_X7_87 ms_Math_max mn_Math mc_Math_max (by omega) (Nat.le_of_ble_eq_true rfl) dX7_second_65 ?_
  refine pf_X7_54 dX7_second_68 ?_
  refine a_aload_n dX7_second_71 rfl rfl ?_
  refine a_aload_n dX7_second_72 rfl rfl ?_
  refine iv_X7_93 dX7_second_73 (Nat.le_of_ble_eq_true rfl) (MtX_mono h (fun r m1 hq => ?_))
  obtain ⟨rfl, h2⟩ := hq
  refine ⟨rfl, ?_⟩
  refine a_aload_n dX7_second_76 rfl rfl ?_
  refine a_aload_n dX7_second_77 rfl rfl ?_
  refine a_iload dX7_second_78 rfl ?_
  refine iv_X7_97 dX7_second_80 (Nat.le_of_ble_eq_true rfl) (MtX_mono h2 (fun r m3 hq => ?_))
  obtain ⟨x5, rfl, h4⟩ := hq
  refine ⟨x5, rfl, ?_⟩
  refine a_istore dX7_second_83 (by decide) rfl ?_
  refine a_aload_n dX7_second_85 rfl rfl ?_
  refine a_aload_n dX7_second_86 rfl rfl ?_
  refine gf_X7_63 (x := m3 7 j0 12) rfl dX7_second_87 ?_
  refine a_iload dX7_second_90 rfl ?_
  refine a_max ml_X7_87 ms_Math_max mn_Math mc_Math_max (by omega) (Nat.le_of_ble_eq_true rfl) dX7_second_92 ?_
  refine pf_X7_63 dX7_second_95 ?_
  refine a_iload dX7_second_98 rfl ?_
  refine a_aload_n dX7_second_100 rfl rfl ?_
  refine gf_X7_48 (x := m3 7 j0 7) (by simp [upM]) dX7_second_101 ?_
  refine a_icmp_le (tgt := 112) dX7_second_104 (by decide) ⟨fun c6 => ?_, fun c6 => ?_⟩
  · exact a_vret dX7_second_112 (h4.1 c6)
  · refine a_aload_n dX7_second_107 rfl rfl ?_
    refine a_iconst (k := 2) dX7_second_108 (n_lit (by decide)) ?_
    refine pf_X7_66 dX7_second_109 ?_
    exact a_vret dX7_second_112 (h4.2 c6)
set_option maxRecDepth 10000 in
theorem sg_X7_step_0 {d : Nat} {sx : Option (List Int)} (j0 : Nat) (a1 : Int) (mem : AMem) (Q : Option AV → AMem → Prop) (h : (a1 ≠ (1 : Int) → (Y cX7_step 2 RX7 (d + 1) sx 27 [some (vr 7 j0), some (vi a1)] [] mem Q)) ∧ (a1 = (1 : Int) → (((8 : Int) ≤ (mem 7 j0 5) → (Y cX7_step 2 RX7 (d + 1) sx 27 [some (vr 7 j0), some (vi a1)] [] mem Q)) ∧ (¬ (8 : Int) ≤ (mem 7 j0 5) → (Q none (upM mem 7 j0 5 (w32 ((mem 7 j0 5) + 1)))))))) : Y cX7_step 2 RX7 (d + 1) sx 0 [some (vr 7 j0), some (vi a1)] [] mem Q := by
  refine a_iload_n dX7_step_0 rfl rfl ?_
  refine a_iconst (k := 1) dX7_step_1 (n_lit (by decide)) ?_
  refine a_icmp_ne (tgt := 27) dX7_step_2 (by decide) ⟨fun c1 => ?_, fun c1 => ?_⟩
  · exact (h.1 c1)
  · refine a_aload_n dX7_step_5 rfl rfl ?_
    refine gf_X7_42 (x := mem 7 j0 5) rfl dX7_step_6 ?_
    refine a_bipush (k := 8) dX7_step_9 (by decide) (n_lit (by decide)) ?_
    refine a_icmp_ge (tgt := 27) dX7_step_11 (by decide) ⟨fun c2 => ?_, fun c2 => ?_⟩
    · exact ((h.2 c1).1 c2)
    · refine a_aload_n dX7_step_14 rfl rfl ?_
      refine a_dup dX7_step_15 rfl ?_
      refine gf_X7_42 (x := mem 7 j0 5) rfl dX7_step_16 ?_
      refine a_iconst (k := 1) dX7_step_19 (n_lit (by decide)) ?_
      refine a_iadd dX7_step_20 ?_
      refine pf_X7_42 dX7_step_21 ?_
      refine a_goto (tgt := 101) dX7_step_24 (by decide) ?_
      exact a_vret dX7_step_101 ((h.2 c1).2 c2)
set_option maxRecDepth 10000 in
theorem sg_X7_step_27 {d : Nat} {sx : Option (List Int)} (j0 : Nat) (a1 : Int) (mem : AMem) (Q : Option AV → AMem → Prop) (h : (a1 ≠ (2 : Int) → (Y cX7_step 2 RX7 (d + 1) sx 52 [some (vr 7 j0), some (vi a1)] [] mem Q)) ∧ (a1 = (2 : Int) → (((mem 7 j0 5) ≤ (0 : Int) → (Y cX7_step 2 RX7 (d + 1) sx 52 [some (vr 7 j0), some (vi a1)] [] mem Q)) ∧ (¬ (mem 7 j0 5) ≤ (0 : Int) → (Q none (upM mem 7 j0 5 (w32 ((mem 7 j0 5) - 1)))))))) : Y cX7_step 2 RX7 (d + 1) sx 27 [some (vr 7 j0), some (vi a1)] [] mem Q := by
  refine a_iload_n dX7_step_27 rfl rfl ?_
  refine a_iconst (k := 2) dX7_step_28 (n_lit (by decide)) ?_
  refine a_icmp_ne (tgt := 52) dX7_step_29 (by decide) ⟨fun c1 => ?_, fun c1 => ?_⟩
  · exact (h.1 c1)
  · refine a_aload_n dX7_step_32 rfl rfl ?_
    refine gf_X7_42 (x := mem 7 j0 5) rfl dX7_step_33 ?_
    refine a_if_le (tgt := 52) dX7_step_36 (by decide) ⟨fun c2 => ?_, fun c2 => ?_⟩
    · exact ((h.2 c1).1 c2)
    · refine a_aload_n dX7_step_39 rfl rfl ?_
      refine a_dup dX7_step_40 rfl ?_
      refine gf_X7_42 (x := mem 7 j0 5) rfl dX7_step_41 ?_
      refine a_iconst (k := 1) dX7_step_44 (n_lit (by decide)) ?_
      refine a_isub dX7_step_45 ?_
      refine pf_X7_42 dX7_step_46 ?_
      refine a_goto (tgt := 101) dX7_step_49 (by decide) ?_
      exact a_vret dX7_step_101 ((h.2 c1).2 c2)
set_option maxRecDepth 10000 in
theorem sg_X7_step_52 {d : Nat} {sx : Option (List Int)} (j0 : Nat) (a1 : Int) (mem : AMem) (Q : Option AV → AMem → Prop) (h : (a1 ≠ (3 : Int) → ((a1 ≠ (4 : Int) → (Q none mem)) ∧ (a1 = (4 : Int) → (((8 : Int) ≤ (mem 7 j0 4) → (Q none mem)) ∧ (¬ (8 : Int) ≤ (mem 7 j0 4) → (Q none (upM mem 7 j0 4 (w32 ((mem 7 j0 4) + 1))))))))) ∧ (a1 = (3 : Int) → (((mem 7 j0 4) ≤ (0 : Int) → ((a1 ≠ (4 : Int) → (Q none mem)) ∧ (a1 = (4 : Int) → (((8 : Int) ≤ (mem 7 j0 4) → (Q none mem)) ∧ (¬ (8 : Int) ≤ (mem 7 j0 4) → (Q none (upM mem 7 j0 4 (w32 ((mem 7 j0 4) + 1))))))))) ∧ (¬ (mem 7 j0 4) ≤ (0 : Int) → (Q none (upM mem 7 j0 4 (w32 ((mem 7 j0 4) - 1)))))))) : Y cX7_step 2 RX7 (d + 1) sx 52 [some (vr 7 j0), some (vi a1)] [] mem Q := by
  refine a_iload_n dX7_step_52 rfl rfl ?_
  refine a_iconst (k := 3) dX7_step_53 (n_lit (by decide)) ?_
  refine a_icmp_ne (tgt := 77) dX7_step_54 (by decide) ⟨fun c1 => ?_, fun c1 => ?_⟩
  · refine a_iload_n dX7_step_77 rfl rfl ?_
    refine a_iconst (k := 4) dX7_step_78 (n_lit (by decide)) ?_
    refine a_icmp_ne (tgt := 101) dX7_step_79 (by decide) ⟨fun c2 => ?_, fun c2 => ?_⟩
    · exact a_vret dX7_step_101 ((h.1 c1).1 c2)
    · refine a_aload_n dX7_step_82 rfl rfl ?_
      refine gf_X7_39 (x := mem 7 j0 4) rfl dX7_step_83 ?_
      refine a_bipush (k := 8) dX7_step_86 (by decide) (n_lit (by decide)) ?_
      refine a_icmp_ge (tgt := 101) dX7_step_88 (by decide) ⟨fun c3 => ?_, fun c3 => ?_⟩
      · exact a_vret dX7_step_101 (((h.1 c1).2 c2).1 c3)
      · refine a_aload_n dX7_step_91 rfl rfl ?_
        refine a_dup dX7_step_92 rfl ?_
        refine gf_X7_39 (x := mem 7 j0 4) rfl dX7_step_93 ?_
        refine a_iconst (k := 1) dX7_step_96 (n_lit (by decide)) ?_
        refine a_iadd dX7_step_97 ?_
        refine pf_X7_39 dX7_step_98 ?_
        exact a_vret dX7_step_101 (((h.1 c1).2 c2).2 c3)
  · refine a_aload_n dX7_step_57 rfl rfl ?_
    refine gf_X7_39 (x := mem 7 j0 4) rfl dX7_step_58 ?_
    refine a_if_le (tgt := 77) dX7_step_61 (by decide) ⟨fun c4 => ?_, fun c4 => ?_⟩
    · refine a_iload_n dX7_step_77 rfl rfl ?_
      refine a_iconst (k := 4) dX7_step_78 (n_lit (by decide)) ?_
      refine a_icmp_ne (tgt := 101) dX7_step_79 (by decide) ⟨fun c5 => ?_, fun c5 => ?_⟩
      · exact a_vret dX7_step_101 (((h.2 c1).1 c4).1 c5)
      · refine a_aload_n dX7_step_82 rfl rfl ?_
        refine gf_X7_39 (x := mem 7 j0 4) rfl dX7_step_83 ?_
        refine a_bipush (k := 8) dX7_step_86 (by decide) (n_lit (by decide)) ?_
        refine a_icmp_ge (tgt := 101) dX7_step_88 (by decide) ⟨fun c6 => ?_, fun c6 => ?_⟩
        · exact a_vret dX7_step_101 ((((h.2 c1).1 c4).2 c5).1 c6)
        · refine a_aload_n dX7_step_91 rfl rfl ?_
          refine a_dup dX7_step_92 rfl ?_
          refine gf_X7_39 (x := mem 7 j0 4) rfl dX7_step_93 ?_
          refine a_iconst (k := 1) dX7_step_96 (n_lit (by decide)) ?_
          refine a_iadd dX7_step_97 ?_
          refine pf_X7_39 dX7_step_98 ?_
          exact a_vret dX7_step_101 ((((h.2 c1).1 c4).2 c5).2 c6)
    · refine a_aload_n dX7_step_64 rfl rfl ?_
      refine a_dup dX7_step_65 rfl ?_
      refine gf_X7_39 (x := mem 7 j0 4) rfl dX7_step_66 ?_
      refine a_iconst (k := 1) dX7_step_69 (n_lit (by decide)) ?_
      refine a_isub dX7_step_70 ?_
      refine pf_X7_39 dX7_step_71 ?_
      refine a_goto (tgt := 101) dX7_step_74 (by decide) ?_
      exact a_vret dX7_step_101 ((h.2 c1).2 c4)
set_option maxRecDepth 10000 in
theorem sg_X7_reachOut_0 {d : Nat} {sx : Option (List Int)} (j0 : Nat) (mem : AMem) (Q : Option AV → AMem → Prop) (h : ((1 : Int) ≤ (mem 7 j0 5) → ((0 ≤ (5 : Int) ∧ (5 : Int) < 14) ∧ (Y cX7_reachOut 4 RX7 (d + 1) sx 18 [some (vr 7 j0), some (vr 2 0), some (vi (mem 303 0 5)), some (vi 0)] [] mem Q))) ∧ (¬ (1 : Int) ≤ (mem 7 j0 5) → (Q none mem))) : Y cX7_reachOut 4 RX7 (d + 1) sx 0 [some (vr 7 j0), some (vr 2 0), none, none] [] mem Q := by
  refine a_aload_n dX7_reachOut_0 rfl rfl ?_
  refine gf_X7_42 (x := mem 7 j0 5) rfl dX7_reachOut_1 ?_
  refine a_iconst (k := 1) dX7_reachOut_4 (n_lit (by decide)) ?_
  refine a_icmp_ge (tgt := 9) dX7_reachOut_5 (by decide) ⟨fun c1 => ?_, fun c1 => ?_⟩
  · refine a_aload_n dX7_reachOut_9 rfl rfl ?_
    refine gf_X7_36 dX7_reachOut_10 ?_
    refine a_iconst (k := 5) dX7_reachOut_13 (n_lit (by decide)) ?_
    refine a_iald rfl rfl (by decide) rfl dX7_reachOut_14 ⟨(h.1 c1).1, ?_⟩
    refine a_istore_n dX7_reachOut_15 rfl (by decide) rfl ?_
    refine a_iconst (k := 0) dX7_reachOut_16 (n_lit (by decide)) ?_
    refine a_istore_n dX7_reachOut_17 rfl (by decide) rfl ?_
    exact (h.1 c1).2
  · exact a_vret dX7_reachOut_8 (h.2 c1)
set_option maxRecDepth 10000 in
theorem sg_X7_reachOut_18 {d : Nat} {sx : Option (List Int)} (j0 : Nat) (a2 : Int) (a3 : Int) (mem : AMem) (Q : Option AV → AMem → Prop) (h : ((mem 2 0 5) ≤ a3 → (Q none mem)) ∧ (¬ (mem 2 0 5) ≤ a3 → (MtX yX7_isInside cX7_isInside 2 (some .boolean) d [vr 7 j0, vi a3] mem (fun r m2 => ∃ x4 : Int, r = some (vi x4) ∧ ((x4 = (0 : Int) → (Y cX7_reachOut 4 RX7 (d + 1) sx 18 [some (vr 7 j0), some (vr 2 0), some (vi a2), some (vi (w32 (a3 + 1)))] [] m2 Q)) ∧ (¬ x4 = (0 : Int) → (MtX yX7_farFromRaider cX7_farFromRaider 2 (some .int) d [vr 7 j0, vi a3] m2 (fun r m6 => ∃ x8 : Int, r = some (vi x8) ∧ ((a2 < x8 → (Y cX7_reachOut 4 RX7 (d + 1) sx 18 [some (vr 7 j0), some (vr 2 0), some (vi a2), some (vi (w32 (a3 + 1)))] [] m6 Q)) ∧ (¬ a2 < x8 → (Y cX7_reachOut 4 RX7 (d + 1) sx 18 [some (vr 7 j0), some (vr 2 0), some (vi a2), some (vi (w32 (a3 + 1)))] [] (upM m6 7 j0 10 (or_32 (m6 7 j0 10) (shl32 1 a3))) Q))))))))))) : Y cX7_reachOut 4 RX7 (d + 1) sx 18 [some (vr 7 j0), some (vr 2 0), some (vi a2), some (vi a3)] [] mem Q := by
  refine a_iload_n dX7_reachOut_18 rfl rfl ?_
  refine a_aload_n dX7_reachOut_19 rfl rfl ?_
  refine gf_X7_101 (x := mem 2 0 5) rfl dX7_reachOut_20 ?_
  refine a_icmp_ge (tgt := 61) dX7_reachOut_23 (by decide) ⟨fun c1 => ?_, fun c1 => ?_⟩
  · exact a_vret dX7_reachOut_61 (h.1 c1)
  · refine a_aload_n dX7_reachOut_26 rfl rfl ?_
    refine a_iload_n dX7_reachOut_27 rfl rfl ?_
    refine iv_X7_104 dX7_reachOut_28 (Nat.le_of_ble_eq_true rfl) (MtX_mono (h.2 c1) (fun r m2 hq => ?_))
    obtain ⟨x4, rfl, h3⟩ := hq
    refine ⟨x4, rfl, ?_⟩
    refine a_if_eq (tgt := 55) dX7_reachOut_31 (by decide) ⟨fun c5 => ?_, fun c5 => ?_⟩
    · refine a_iinc dX7_reachOut_55 rfl (by decide) rfl ?_
      refine a_goto (tgt := 18) dX7_reachOut_58 (by decide) ?_
      exact (h3.1 c5)
    · refine a_aload_n dX7_reachOut_34 rfl rfl ?_
      refine a_iload_n dX7_reachOut_35 rfl rfl ?_
      refine iv_X7_108 dX7_reachOut_36 (Nat.le_of_ble_eq_true rfl) (MtX_mono (h3.2 c5) (fun r m6 hq => ?_))
      obtain ⟨x8, rfl, h7⟩ := hq
      refine ⟨x8, rfl, ?_⟩
      refine a_iload_n dX7_reachOut_39 rfl rfl ?_
      refine a_icmp_gt (tgt := 55) dX7_reachOut_40 (by decide) ⟨fun c9 => ?_, fun c9 => ?_⟩
      · refine a_iinc dX7_reachOut_55 rfl (by decide) rfl ?_
        refine a_goto (tgt := 18) dX7_reachOut_58 (by decide) ?_
        exact (h7.1 c9)
      · refine a_aload_n dX7_reachOut_43 rfl rfl ?_
        refine a_dup dX7_reachOut_44 rfl ?_
        refine gf_X7_57 (x := m6 7 j0 10) rfl dX7_reachOut_45 ?_
        refine a_iconst (k := 1) dX7_reachOut_48 (n_lit (by decide)) ?_
        refine a_iload_n dX7_reachOut_49 rfl rfl ?_
        refine a_ishl dX7_reachOut_50 ?_
        refine a_ior dX7_reachOut_51 ?_
        refine pf_X7_57 dX7_reachOut_52 ?_
        refine a_iinc dX7_reachOut_55 rfl (by decide) rfl ?_
        refine a_goto (tgt := 18) dX7_reachOut_58 (by decide) ?_
        exact (h7.2 c9)
set_option maxRecDepth 10000 in
theorem sg_X7_theyAct_0 {d : Nat} {sx : Option (List Int)} (j0 : Nat) (a2 : Int) (mem : AMem) (Q : Option AV → AMem → Prop) (h : Y cX7_theyAct 6 RX7 (d + 1) sx 5 [some (vr 7 j0), some (vr 2 0), some (vi a2), some (vi 0), some (vi 0), none] [] mem Q) : Y cX7_theyAct 6 RX7 (d + 1) sx 0 [some (vr 7 j0), some (vr 2 0), some (vi a2), none, none, none] [] mem Q := by
  refine a_iconst (k := 0) dX7_theyAct_0 (n_lit (by decide)) ?_
  refine a_istore_n dX7_theyAct_1 rfl (by decide) rfl ?_
  refine a_iconst (k := 0) dX7_theyAct_2 (n_lit (by decide)) ?_
  refine a_istore dX7_theyAct_3 (by decide) rfl ?_
  exact h
set_option maxRecDepth 10000 in
theorem sg_X7_theyAct_5 {d : Nat} {sx : Option (List Int)} (j0 : Nat) (a2 : Int) (a3 : Int) (a4 : Int) (mem : AMem) (Q : Option AV → AMem → Prop) (h : ((mem 2 0 5) ≤ a4 → (Q (some (vi a3)) mem)) ∧ (¬ (mem 2 0 5) ≤ a4 → (MtX yX7_isInside cX7_isInside 2 (some .boolean) d [vr 7 j0, vi a4] mem (fun r m2 => ∃ x4 : Int, r = some (vi x4) ∧ ((x4 ≠ (0 : Int) → (MtX yX7_choice cX7_choice 5 (some .int) d [vr 7 j0, vr 2 0, vi a4, vi a2] m2 (fun r m6 => ∃ x8 : Int, r = some (vi x8) ∧ ((x8 ≠ (1 : Int) → ((x8 ≠ (2 : Int) → ((x8 ≠ (3 : Int) → (Y cX7_theyAct 6 RX7 (d + 1) sx 5 [some (vr 7 j0), some (vr 2 0), some (vi a2), some (vi a3), some (vi (w32 (a4 + 1))), some (vi x8)] [] m6 Q)) ∧ (x8 = (3 : Int) → (((m6 7 j0 5) < (1 : Int) → (Y cX7_theyAct 6 RX7 (d + 1) sx 5 [some (vr 7 j0), some (vr 2 0), some (vi a2), some (vi a3), some (vi (w32 (a4 + 1))), some (vi x8)] [] m6 Q)) ∧ (¬ (m6 7 j0 5) < (1 : Int) → (MtX yX7_farFromRaider cX7_farFromRaider 2 (some .int) d [vr 7 j0, vi a4] m6 (fun r m13 => ∃ x15 : Int, r = some (vi x15) ∧ (((1 : Int) < x15 → (Y cX7_theyAct 6 RX7 (d + 1) sx 5 [some (vr 7 j0), some (vr 2 0), some (vi a2), some (vi a3), some (vi (w32 (a4 + 1))), some (vi x8)] [] m13 Q)) ∧ (¬ (1 : Int) < x15 → ((0 ≤ a4 ∧ a4 < 7) ∧ (Y cX7_theyAct 6 RX7 (d + 1) sx 5 [some (vr 7 j0), some (vr 2 0), some (vi a2), some (vi (w32 (a3 + (m13 302 0 a4)))), some (vi (w32 (a4 + 1))), some (vi x8)] [] (upM m13 7 j0 11 (or_32 (m13 7 j0 11) (shl32 1 a4))) Q))))))))))) ∧ (x8 = (2 : Int) → ((0 ≤ a4 ∧ a4 < 7) ∧ ((0 ≤ a4 ∧ a4 < 7) ∧ (Y cX7_theyAct 6 RX7 (d + 1) sx 5 [some (vr 7 j0), some (vr 2 0), some (vi a2), some (vi a3), some (vi (w32 (a4 + 1))), some (vi x8)] [] (upM m6 801 j0 a4 (min 8 (w32 ((m6 801 j0 a4) + 1)))) Q)))))) ∧ (x8 = (1 : Int) → (MtX yX7_comeNearer cX7_comeNearer 5 none d [vr 7 j0, vi a4] m6 (fun r m17 => r = none ∧ (Y cX7_theyAct 6 RX7 (d + 1) sx 5 [some (vr 7 j0), some (vr 2 0), some (vi a2), some (vi a3), some (vi (w32 (a4 + 1))), some (vi x8)] [] m17 Q)))))))) ∧ (x4 = (0 : Int) → (Y cX7_theyAct 6 RX7 (d + 1) sx 5 [some (vr 7 j0), some (vr 2 0), some (vi a2), some (vi a3), some (vi (w32 (a4 + 1))), none] [] m2 Q))))))) : Y cX7_theyAct 6 RX7 (d + 1) sx 5 [some (vr 7 j0), some (vr 2 0), some (vi a2), some (vi a3), some (vi a4), none] [] mem Q := by
  refine a_iload dX7_theyAct_5 rfl ?_
  refine a_aload_n dX7_theyAct_7 rfl rfl ?_
  refine gf_X7_101 (x := mem 2 0 5) rfl dX7_theyAct_8 ?_
  refine a_icmp_ge (tgt := 134) dX7_theyAct_11 (by decide) ⟨fun c1 => ?_, fun c1 => ?_⟩
  · refine a_iload_n dX7_theyAct_134 rfl rfl ?_
    exact a_iret dX7_theyAct_135 (h.1 c1)
  · refine a_aload_n dX7_theyAct_14 rfl rfl ?_
    refine a_iload dX7_theyAct_15 rfl ?_
    refine iv_X7_104 dX7_theyAct_17 (Nat.le_of_ble_eq_true rfl) (MtX_mono (h.2 c1) (fun r m2 hq => ?_))
    obtain ⟨x4, rfl, h3⟩ := hq
    refine ⟨x4, rfl, ?_⟩
    refine a_if_ne (tgt := 26) dX7_theyAct_20 (by decide) ⟨fun c5 => ?_, fun c5 => ?_⟩
    · refine a_aload_n dX7_theyAct_26 rfl rfl ?_
      refine a_aload_n dX7_theyAct_27 rfl rfl ?_
      refine a_iload dX7_theyAct_28 rfl ?_
      refine a_iload_n dX7_theyAct_30 rfl rfl ?_
      refine iv_X7_111 dX7_theyAct_31 (Nat.le_of_ble_eq_true rfl) (MtX_mono (h3.1 c5) (fun r m6 hq => ?_))
      obtain ⟨x8, rfl, h7⟩ := hq
      refine ⟨x8, rfl, ?_⟩
      refine a_istore dX7_theyAct_34 (by decide) rfl ?_
      refine a_iload dX7_theyAct_36 rfl ?_
      refine a_iconst (k := 1) dX7_theyAct_38 (n_lit (by decide)) ?_
      refine a_icmp_ne (tgt := 51) dX7_theyAct_39 (by decide) ⟨fun c9 => ?_, fun c9 => ?_⟩
      · refine a_iload dX7_theyAct_51 rfl ?_
        refine a_iconst (k := 2) dX7_theyAct_53 (n_lit (by decide)) ?_
        refine a_icmp_ne (tgt := 81) dX7_theyAct_54 (by decide) ⟨fun c10 => ?_, fun c10 => ?_⟩
        · refine a_iload dX7_theyAct_81 rfl ?_
          refine a_iconst (k := 3) dX7_theyAct_83 (n_lit (by decide)) ?_
          refine a_icmp_ne (tgt := 128) dX7_theyAct_84 (by decide) ⟨fun c11 => ?_, fun c11 => ?_⟩
          · refine a_iinc dX7_theyAct_128 rfl (by decide) rfl ?_
            refine a_goto (tgt := 5) dX7_theyAct_131 (by decide) ?_
            exact (((h7.1 c9).1 c10).1 c11)
          · refine a_aload_n dX7_theyAct_87 rfl rfl ?_
            refine gf_X7_42 (x := m6 7 j0 5) rfl dX7_theyAct_88 ?_
            refine a_iconst (k := 1) dX7_theyAct_91 (n_lit (by decide)) ?_
            refine a_icmp_lt (tgt := 128) dX7_theyAct_92 (by decide) ⟨fun c12 => ?_, fun c12 => ?_⟩
            · refine a_iinc dX7_theyAct_128 rfl (by decide) rfl ?_
              refine a_goto (tgt := 5) dX7_theyAct_131 (by decide) ?_
              exact ((((h7.1 c9).1 c10).2 c11).1 c12)
            · refine a_aload_n dX7_theyAct_95 rfl rfl ?_
              refine a_iload dX7_theyAct_96 rfl ?_
              refine iv_X7_108 dX7_theyAct_98 (Nat.le_of_ble_eq_true rfl) (MtX_mono ((((h7.1 c9).1 c10).2 c11).2 c12) (fun r m13 hq => ?_))
              obtain ⟨x15, rfl, h14⟩ := hq
              refine ⟨x15, rfl, ?_⟩
              refine a_iconst (k := 1) dX7_theyAct_101 (n_lit (by decide)) ?_
              refine a_icmp_gt (tgt := 128) dX7_theyAct_102 (by decide) ⟨fun c16 => ?_, fun c16 => ?_⟩
              · refine a_iinc dX7_theyAct_128 rfl (by decide) rfl ?_
                refine a_goto (tgt := 5) dX7_theyAct_131 (by decide) ?_
                exact (h14.1 c16)
              · refine a_aload_n dX7_theyAct_105 rfl rfl ?_
                refine a_dup dX7_theyAct_106 rfl ?_
                refine gf_X7_60 (x := m13 7 j0 11) rfl dX7_theyAct_107 ?_
                refine a_iconst (k := 1) dX7_theyAct_110 (n_lit (by decide)) ?_
                refine a_iload dX7_theyAct_111 rfl ?_
                refine a_ishl dX7_theyAct_113 ?_
                refine a_ior dX7_theyAct_114 ?_
                refine pf_X7_60 dX7_theyAct_115 ?_
                refine a_iload_n dX7_theyAct_118 rfl rfl ?_
                refine a_aload_n dX7_theyAct_119 rfl rfl ?_
                refine gf_X7_121 dX7_theyAct_120 ?_
                refine a_iload dX7_theyAct_123 rfl ?_
                refine a_iald rfl rfl (by decide) rfl dX7_theyAct_125 ⟨(h14.2 c16).1, ?_⟩
                refine a_iadd dX7_theyAct_126 ?_
                refine a_istore_n dX7_theyAct_127 rfl (by decide) rfl ?_
                refine a_iinc dX7_theyAct_128 rfl (by decide) rfl ?_
                refine a_goto (tgt := 5) dX7_theyAct_131 (by decide) ?_
                exact (h14.2 c16).2
        · refine a_aload_n dX7_theyAct_57 rfl rfl ?_
          refine gf_X7_15 dX7_theyAct_58 ?_
          refine a_iload dX7_theyAct_61 rfl ?_
          refine a_bipush (k := 8) dX7_theyAct_63 (by decide) (n_lit (by decide)) ?_
          refine a_aload_n dX7_theyAct_65 rfl rfl ?_
          refine gf_X7_15 dX7_theyAct_66 ?_
          refine a_iload dX7_theyAct_69 rfl ?_
          refine a_iald rfl rfl (by decide) rfl dX7_theyAct_71 ⟨((h7.1 c9).2 c10).1, ?_⟩
          refine a_iconst (k := 1) dX7_theyAct_72 (n_lit (by decide)) ?_
          refine a_iadd dX7_theyAct_73 ?_
          refine a_min ml_X7_118 ms_Math_min mn_Math mc_Math_min (by omega) (Nat.le_of_ble_eq_true rfl) dX7_theyAct_74 ?_
          refine a_iast rfl rfl (by decide) rfl dX7_theyAct_77 ⟨((h7.1 c9).2 c10).2.1, ?_⟩
          refine a_goto (tgt := 128) dX7_theyAct_78 (by decide) ?_
          refine a_iinc dX7_theyAct_128 rfl (by decide) rfl ?_
          refine a_goto (tgt := 5) dX7_theyAct_131 (by decide) ?_
          exact ((h7.1 c9).2 c10).2.2
      · refine a_aload_n dX7_theyAct_42 rfl rfl ?_
        refine a_iload dX7_theyAct_43 rfl ?_
        refine iv_X7_115 dX7_theyAct_45 (Nat.le_of_ble_eq_true rfl) (MtX_mono (h7.2 c9) (fun r m17 hq => ?_))
        obtain ⟨rfl, h18⟩ := hq
        refine ⟨rfl, ?_⟩
        refine a_goto (tgt := 128) dX7_theyAct_48 (by decide) ?_
        refine a_iinc dX7_theyAct_128 rfl (by decide) rfl ?_
        refine a_goto (tgt := 5) dX7_theyAct_131 (by decide) ?_
        exact h18
    · refine a_goto (tgt := 128) dX7_theyAct_23 (by decide) ?_
      refine a_iinc dX7_theyAct_128 rfl (by decide) rfl ?_
      refine a_goto (tgt := 5) dX7_theyAct_131 (by decide) ?_
      exact (h3.2 c5)
set_option maxRecDepth 10000 in
theorem sg_X7_choice_0 {d : Nat} {sx : Option (List Int)} (j0 : Nat) (a2 : Int) (a3 : Int) (mem : AMem) (Q : Option AV → AMem → Prop) (h : MtX yX7_farFromRaider cX7_farFromRaider 2 (some .int) d [vr 7 j0, vi a2] mem (fun r m1 => ∃ x3 : Int, r = some (vi x3) ∧ (0 ≤ m1 2 0 7 ∧ (MtX yX3_isEmpty cX3_isEmpty 1 (some .boolean) d [vr 3 (Int.toNat (m1 2 0 7))] m1 (fun r m4 => ∃ x6 : Int, r = some (vi x6) ∧ ((x6 = (0 : Int) → ((0 ≤ (0 : Int) ∧ (0 : Int) < 6) ∧ ((0 ≤ (1 : Int) ∧ (1 : Int) < 6) ∧ ((0 ≤ (2 : Int) ∧ (2 : Int) < 6) ∧ ((0 ≤ a2 ∧ a2 < 7) ∧ ((0 ≤ (3 : Int) ∧ (3 : Int) < 6) ∧ (MtX yJ6_bitCount_0f7a4 cJ6_bitCount_0f7a4 1 (some .int) d [vi (m4 7 j0 3)] (upM (upM (upM (upM m4 802 j0 0 x3) 802 j0 1 (m4 7 j0 5)) 802 j0 2 a3) 802 j0 3 (m4 302 0 a2)) (fun r m8 => ∃ x10 : Int, r = some (vi x10) ∧ ((0 ≤ (4 : Int) ∧ (4 : Int) < 6) ∧ (0 ≤ m8 2 0 7 ∧ (((m8 3 (Int.toNat (m8 2 0 7)) 4) = (0 : Int) → ((0 ≤ (5 : Int) ∧ (5 : Int) < 6) ∧ (0 ≤ m8 2 0 7 ∧ (MtX yX3_worth cX3_worth 6 (some .int) d [vr 3 (Int.toNat (m8 2 0 7)), vr 802 j0] (upM (upM m8 802 j0 4 x10) 802 j0 5 0) (fun r m12 => ∃ x14 : Int, r = some (vi x14) ∧ (Q (some (vi (ab32 (Int.tmod x14 4)))) m12)))))) ∧ (¬ (m8 3 (Int.toNat (m8 2 0 7)) 4) = (0 : Int) → (MtX yX7_neighbours cX7_neighbours 6 (some .int) d [vr 7 j0, vi a2, vi (m8 2 0 5)] (upM m8 802 j0 4 x10) (fun r m15 => ∃ x17 : Int, r = some (vi x17) ∧ ((0 ≤ (5 : Int) ∧ (5 : Int) < 6) ∧ (0 ≤ m15 2 0 7 ∧ (MtX yX3_worth cX3_worth 6 (some .int) d [vr 3 (Int.toNat (m15 2 0 7)), vr 802 j0] (upM m15 802 j0 5 x17) (fun r m18 => ∃ x20 : Int, r = some (vi x20) ∧ (Q (some (vi (ab32 (Int.tmod x20 4)))) m18))))))))))))))))))) ∧ (¬ x6 = (0 : Int) → (MtX yX7_plainChoice cX7_plainChoice 2 (some .int) d [vr 7 j0, vi x3] m4 (fun r m21 => ∃ x23 : Int, r = some (vi x23) ∧ (Q (some (vi x23)) m21)))))))))) : Y cX7_choice 5 RX7 (d + 1) sx 0 [some (vr 7 j0), some (vr 2 0), some (vi a2), some (vi a3), none] [] mem Q := by
  refine a_aload_n dX7_choice_0 rfl rfl ?_
  refine a_iload_n dX7_choice_1 rfl rfl ?_
  refine iv_X7_108 dX7_choice_2 (Nat.le_of_ble_eq_true rfl) (MtX_mono h (fun r m1 hq => ?_))
  obtain ⟨x3, rfl, h2⟩ := hq
  refine ⟨x3, rfl, ?_⟩
  refine a_istore dX7_choice_5 (by decide) rfl ?_
  refine a_aload_n dX7_choice_7 rfl rfl ?_
  refine gf_X7_124 (x := m1 2 0 7) rfl dX7_choice_8 ⟨h2.1, ?_⟩
  refine iv_X7_128 dX7_choice_11 (Nat.le_of_ble_eq_true rfl) (MtX_mono h2.2 (fun r m4 hq => ?_))
  obtain ⟨x6, rfl, h5⟩ := hq
  refine ⟨x6, rfl, ?_⟩
  refine a_if_eq (tgt := 24) dX7_choice_14 (by decide) ⟨fun c7 => ?_, fun c7 => ?_⟩
  · refine a_aload_n dX7_choice_24 rfl rfl ?_
    refine gf_X7_20 dX7_choice_25 ?_
    refine a_iconst (k := 0) dX7_choice_28 (n_lit (by decide)) ?_
    refine a_iload dX7_choice_29 rfl ?_
    refine a_iast rfl rfl (by decide) rfl dX7_choice_31 ⟨(h5.1 c7).1, ?_⟩
    refine a_aload_n dX7_choice_32 rfl rfl ?_
    refine gf_X7_20 dX7_choice_33 ?_
    refine a_iconst (k := 1) dX7_choice_36 (n_lit (by decide)) ?_
    refine a_aload_n dX7_choice_37 rfl rfl ?_
    refine gf_X7_42 (x := m4 7 j0 5) (by simp [upM]) dX7_choice_38 ?_
    refine a_iast rfl rfl (by decide) rfl dX7_choice_41 ⟨(h5.1 c7).2.1, ?_⟩
    refine a_aload_n dX7_choice_42 rfl rfl ?_
    refine gf_X7_20 dX7_choice_43 ?_
    refine a_iconst (k := 2) dX7_choice_46 (n_lit (by decide)) ?_
    refine a_iload_n dX7_choice_47 rfl rfl ?_
    refine a_iast rfl rfl (by decide) rfl dX7_choice_48 ⟨(h5.1 c7).2.2.1, ?_⟩
    refine a_aload_n dX7_choice_49 rfl rfl ?_
    refine gf_X7_20 dX7_choice_50 ?_
    refine a_iconst (k := 3) dX7_choice_53 (n_lit (by decide)) ?_
    refine a_aload_n dX7_choice_54 rfl rfl ?_
    refine gf_X7_121 dX7_choice_55 ?_
    refine a_iload_n dX7_choice_58 rfl rfl ?_
    refine a_iald rfl rfl (by decide) rfl dX7_choice_59 ⟨(h5.1 c7).2.2.2.1, ?_⟩
    refine a_iast rfl rfl (by decide) rfl dX7_choice_60 ⟨(h5.1 c7).2.2.2.2.1, ?_⟩
    refine a_aload_n dX7_choice_61 rfl rfl ?_
    refine gf_X7_20 dX7_choice_62 ?_
    refine a_iconst (k := 4) dX7_choice_65 (n_lit (by decide)) ?_
    refine a_aload_n dX7_choice_66 rfl rfl ?_
    refine gf_X7_35 (x := m4 7 j0 3) (by simp [upM]) dX7_choice_67 ?_
    refine iv_X7_137 dX7_choice_70 (Nat.le_of_ble_eq_true rfl) (MtX_mono (h5.1 c7).2.2.2.2.2 (fun r m8 hq => ?_))
    obtain ⟨x10, rfl, h9⟩ := hq
    refine ⟨x10, rfl, ?_⟩
    refine a_iast rfl rfl (by decide) rfl dX7_choice_73 ⟨h9.1, ?_⟩
    refine a_aload_n dX7_choice_74 rfl rfl ?_
    refine gf_X7_20 dX7_choice_75 ?_
    refine a_iconst (k := 5) dX7_choice_78 (n_lit (by decide)) ?_
    refine a_aload_n dX7_choice_79 rfl rfl ?_
    refine gf_X7_124 (x := m8 2 0 7) rfl dX7_choice_80 ⟨h9.2.1, ?_⟩
    refine gf_X7_142 (x := m8 3 (Int.toNat (m8 2 0 7)) 4) (by simp [upM]) dX7_choice_83 ?_
    refine a_if_eq (tgt := 101) dX7_choice_86 (by decide) ⟨fun c11 => ?_, fun c11 => ?_⟩
    · refine a_iconst (k := 0) dX7_choice_101 (n_lit (by decide)) ?_
      refine a_iast rfl rfl (by decide) rfl dX7_choice_102 ⟨(h9.2.2.1 c11).1, ?_⟩
      refine a_aload_n dX7_choice_103 rfl rfl ?_
      refine gf_X7_124 (x := m8 2 0 7) rfl dX7_choice_104 ⟨(h9.2.2.1 c11).2.1, ?_⟩
      refine a_aload_n dX7_choice_107 rfl rfl ?_
      refine gf_X7_20 dX7_choice_108 ?_
      refine iv_X7_149 dX7_choice_111 (Nat.le_of_ble_eq_true rfl) (MtX_mono (h9.2.2.1 c11).2.2 (fun r m12 hq => ?_))
      obtain ⟨x14, rfl, h13⟩ := hq
      refine ⟨x14, rfl, ?_⟩
      refine a_iconst (k := 4) dX7_choice_114 (n_lit (by decide)) ?_
      refine a_irem dX7_choice_115 (by decide) ?_
      refine a_abs ml_X7_153 ms_Math_abs mn_Math mc_Math_abs (by omega) (Nat.le_of_ble_eq_true rfl) dX7_choice_116 ?_
      exact a_iret dX7_choice_119 h13
    · refine a_aload_n dX7_choice_89 rfl rfl ?_
      refine a_iload_n dX7_choice_90 rfl rfl ?_
      refine a_aload_n dX7_choice_91 rfl rfl ?_
      refine gf_X7_101 (x := m8 2 0 5) rfl dX7_choice_92 ?_
      refine iv_X7_146 dX7_choice_95 (Nat.le_of_ble_eq_true rfl) (MtX_mono (h9.2.2.2 c11) (fun r m15 hq => ?_))
      obtain ⟨x17, rfl, h16⟩ := hq
      refine ⟨x17, rfl, ?_⟩
      refine a_goto (tgt := 102) dX7_choice_98 (by decide) ?_
      refine a_iast rfl rfl (by decide) rfl dX7_choice_102 ⟨h16.1, ?_⟩
      refine a_aload_n dX7_choice_103 rfl rfl ?_
      refine gf_X7_124 (x := m15 2 0 7) rfl dX7_choice_104 ⟨h16.2.1, ?_⟩
      refine a_aload_n dX7_choice_107 rfl rfl ?_
      refine gf_X7_20 dX7_choice_108 ?_
      refine iv_X7_149 dX7_choice_111 (Nat.le_of_ble_eq_true rfl) (MtX_mono h16.2.2 (fun r m18 hq => ?_))
      obtain ⟨x20, rfl, h19⟩ := hq
      refine ⟨x20, rfl, ?_⟩
      refine a_iconst (k := 4) dX7_choice_114 (n_lit (by decide)) ?_
      refine a_irem dX7_choice_115 (by decide) ?_
      refine a_abs ml_X7_153 ms_Math_abs mn_Math mc_Math_abs (by omega) (Nat.le_of_ble_eq_true rfl) dX7_choice_116 ?_
      exact a_iret dX7_choice_119 h19
  · refine a_aload_n dX7_choice_17 rfl rfl ?_
    refine a_iload dX7_choice_18 rfl ?_
    refine iv_X7_134 dX7_choice_20 (Nat.le_of_ble_eq_true rfl) (MtX_mono (h5.2 c7) (fun r m21 hq => ?_))
    obtain ⟨x23, rfl, h22⟩ := hq
    refine ⟨x23, rfl, ?_⟩
    exact a_iret dX7_choice_23 h22
set_option maxRecDepth 10000 in
theorem sg_X7_plainChoice_0 {d : Nat} {sx : Option (List Int)} (j0 : Nat) (a1 : Int) (mem : AMem) (Q : Option AV → AMem → Prop) (h : ((mem 7 j0 5) < (4 : Int) → (((2 : Int) < a1 → (Q (some (vi 0)) mem)) ∧ (¬ (2 : Int) < a1 → (Q (some (vi 2)) mem)))) ∧ (¬ (mem 7 j0 5) < (4 : Int) → (((1 : Int) < a1 → (Q (some (vi 1)) mem)) ∧ (¬ (1 : Int) < a1 → (Q (some (vi 3)) mem))))) : Y cX7_plainChoice 2 RX7 (d + 1) sx 0 [some (vr 7 j0), some (vi a1)] [] mem Q := by
  refine a_aload_n dX7_plainChoice_0 rfl rfl ?_
  refine gf_X7_42 (x := mem 7 j0 5) rfl dX7_plainChoice_1 ?_
  refine a_iconst (k := 4) dX7_plainChoice_4 (n_lit (by decide)) ?_
  refine a_icmp_lt (tgt := 19) dX7_plainChoice_5 (by decide) ⟨fun c1 => ?_, fun c1 => ?_⟩
  · refine a_iload_n dX7_plainChoice_19 rfl rfl ?_
    refine a_iconst (k := 2) dX7_plainChoice_20 (n_lit (by decide)) ?_
    refine a_icmp_gt (tgt := 28) dX7_plainChoice_21 (by decide) ⟨fun c2 => ?_, fun c2 => ?_⟩
    · refine a_iconst (k := 0) dX7_plainChoice_28 (n_lit (by decide)) ?_
      exact a_iret dX7_plainChoice_29 ((h.1 c1).1 c2)
    · refine a_iconst (k := 2) dX7_plainChoice_24 (n_lit (by decide)) ?_
      refine a_goto (tgt := 29) dX7_plainChoice_25 (by decide) ?_
      exact a_iret dX7_plainChoice_29 ((h.1 c1).2 c2)
  · refine a_iload_n dX7_plainChoice_8 rfl rfl ?_
    refine a_iconst (k := 1) dX7_plainChoice_9 (n_lit (by decide)) ?_
    refine a_icmp_gt (tgt := 17) dX7_plainChoice_10 (by decide) ⟨fun c3 => ?_, fun c3 => ?_⟩
    · refine a_iconst (k := 1) dX7_plainChoice_17 (n_lit (by decide)) ?_
      exact a_iret dX7_plainChoice_18 ((h.2 c1).1 c3)
    · refine a_iconst (k := 3) dX7_plainChoice_13 (n_lit (by decide)) ?_
      refine a_goto (tgt := 18) dX7_plainChoice_14 (by decide) ?_
      exact a_iret dX7_plainChoice_18 ((h.2 c1).2 c3)
set_option maxRecDepth 10000 in
theorem sg_X7_neighbours_0 {d : Nat} {sx : Option (List Int)} (j0 : Nat) (a1 : Int) (a2 : Int) (mem : AMem) (Q : Option AV → AMem → Prop) (h : Y cX7_neighbours 6 RX7 (d + 1) sx 5 [some (vr 7 j0), some (vi a1), some (vi a2), some (vi 0), some (vi 0), none] [] mem Q) : Y cX7_neighbours 6 RX7 (d + 1) sx 0 [some (vr 7 j0), some (vi a1), some (vi a2), none, none, none] [] mem Q := by
  refine a_iconst (k := 0) dX7_neighbours_0 (n_lit (by decide)) ?_
  refine a_istore_n dX7_neighbours_1 rfl (by decide) rfl ?_
  refine a_iconst (k := 0) dX7_neighbours_2 (n_lit (by decide)) ?_
  refine a_istore dX7_neighbours_3 (by decide) rfl ?_
  exact h
set_option maxRecDepth 10000 in
theorem sg_X7_neighbours_5 {d : Nat} {sx : Option (List Int)} (j0 : Nat) (a1 : Int) (a2 : Int) (a3 : Int) (a4 : Int) (mem : AMem) (Q : Option AV → AMem → Prop) (h : (a2 ≤ a4 → (Q (some (vi a3)) mem)) ∧ (¬ a2 ≤ a4 → ((0 ≤ a4 ∧ a4 < 7) ∧ ((0 ≤ a1 ∧ a1 < 7) ∧ ((0 ≤ a4 ∧ a4 < 7) ∧ ((0 ≤ a1 ∧ a1 < 7) ∧ (MtX yX7_isInside cX7_isInside 2 (some .boolean) d [vr 7 j0, vi a4] mem (fun r m2 => ∃ x4 : Int, r = some (vi x4) ∧ ((x4 = (0 : Int) → (Y cX7_neighbours 6 RX7 (d + 1) sx 5 [some (vr 7 j0), some (vi a1), some (vi a2), some (vi a3), some (vi (w32 (a4 + 1))), some (vi (w32 ((ab32 (w32 ((mem 800 j0 a4) - (mem 800 j0 a1)))) + (ab32 (w32 ((mem 801 j0 a4) - (mem 801 j0 a1)))))))] [] m2 Q)) ∧ (¬ x4 = (0 : Int) → (((w32 ((ab32 (w32 ((mem 800 j0 a4) - (mem 800 j0 a1)))) + (ab32 (w32 ((mem 801 j0 a4) - (mem 801 j0 a1)))))) ≠ (1 : Int) → (Y cX7_neighbours 6 RX7 (d + 1) sx 5 [some (vr 7 j0), some (vi a1), some (vi a2), some (vi a3), some (vi (w32 (a4 + 1))), some (vi (w32 ((ab32 (w32 ((mem 800 j0 a4) - (mem 800 j0 a1)))) + (ab32 (w32 ((mem 801 j0 a4) - (mem 801 j0 a1)))))))] [] m2 Q)) ∧ ((w32 ((ab32 (w32 ((mem 800 j0 a4) - (mem 800 j0 a1)))) + (ab32 (w32 ((mem 801 j0 a4) - (mem 801 j0 a1)))))) = (1 : Int) → (Y cX7_neighbours 6 RX7 (d + 1) sx 5 [some (vr 7 j0), some (vi a1), some (vi a2), some (vi (w32 (a3 + 1))), some (vi (w32 (a4 + 1))), some (vi (w32 ((ab32 (w32 ((mem 800 j0 a4) - (mem 800 j0 a1)))) + (ab32 (w32 ((mem 801 j0 a4) - (mem 801 j0 a1)))))))] [] m2 Q))))))))))))) : Y cX7_neighbours 6 RX7 (d + 1) sx 5 [some (vr 7 j0), some (vi a1), some (vi a2), some (vi a3), some (vi a4), none] [] mem Q := by
  refine a_iload dX7_neighbours_5 rfl ?_
  refine a_iload_n dX7_neighbours_7 rfl rfl ?_
  refine a_icmp_ge (tgt := 72) dX7_neighbours_8 (by decide) ⟨fun c1 => ?_, fun c1 => ?_⟩
  · refine a_iload_n dX7_neighbours_72 rfl rfl ?_
    exact a_iret dX7_neighbours_73 (h.1 c1)
  · refine a_aload_n dX7_neighbours_11 rfl rfl ?_
    refine gf_X7_9 dX7_neighbours_12 ?_
    refine a_iload dX7_neighbours_15 rfl ?_
    refine a_iald rfl rfl (by decide) rfl dX7_neighbours_17 ⟨(h.2 c1).1, ?_⟩
    refine a_aload_n dX7_neighbours_18 rfl rfl ?_
    refine gf_X7_9 dX7_neighbours_19 ?_
    refine a_iload_n dX7_neighbours_22 rfl rfl ?_
    refine a_iald rfl rfl (by decide) rfl dX7_neighbours_23 ⟨(h.2 c1).2.1, ?_⟩
    refine a_isub dX7_neighbours_24 ?_
    refine a_abs ml_X7_153 ms_Math_abs mn_Math mc_Math_abs (by omega) (Nat.le_of_ble_eq_true rfl) dX7_neighbours_25 ?_
    refine a_aload_n dX7_neighbours_28 rfl rfl ?_
    refine gf_X7_15 dX7_neighbours_29 ?_
    refine a_iload dX7_neighbours_32 rfl ?_
    refine a_iald rfl rfl (by decide) rfl dX7_neighbours_34 ⟨(h.2 c1).2.2.1, ?_⟩
    refine a_aload_n dX7_neighbours_35 rfl rfl ?_
    refine gf_X7_15 dX7_neighbours_36 ?_
    refine a_iload_n dX7_neighbours_39 rfl rfl ?_
    refine a_iald rfl rfl (by decide) rfl dX7_neighbours_40 ⟨(h.2 c1).2.2.2.1, ?_⟩
    refine a_isub dX7_neighbours_41 ?_
    refine a_abs ml_X7_153 ms_Math_abs mn_Math mc_Math_abs (by omega) (Nat.le_of_ble_eq_true rfl) dX7_neighbours_42 ?_
    refine a_iadd dX7_neighbours_45 ?_
    refine a_istore dX7_neighbours_46 (by decide) rfl ?_
    refine a_aload_n dX7_neighbours_48 rfl rfl ?_
    refine a_iload dX7_neighbours_49 rfl ?_
    refine iv_X7_104 dX7_neighbours_51 (Nat.le_of_ble_eq_true rfl) (MtX_mono (h.2 c1).2.2.2.2 (fun r m2 hq => ?_))
    obtain ⟨x4, rfl, h3⟩ := hq
    refine ⟨x4, rfl, ?_⟩
    refine a_if_eq (tgt := 66) dX7_neighbours_54 (by decide) ⟨fun c5 => ?_, fun c5 => ?_⟩
    · refine a_iinc dX7_neighbours_66 rfl (by decide) rfl ?_
      refine a_goto (tgt := 5) dX7_neighbours_69 (by decide) ?_
      exact (h3.1 c5)
    · refine a_iload dX7_neighbours_57 rfl ?_
      refine a_iconst (k := 1) dX7_neighbours_59 (n_lit (by decide)) ?_
      refine a_icmp_ne (tgt := 66) dX7_neighbours_60 (by decide) ⟨fun c6 => ?_, fun c6 => ?_⟩
      · refine a_iinc dX7_neighbours_66 rfl (by decide) rfl ?_
        refine a_goto (tgt := 5) dX7_neighbours_69 (by decide) ?_
        exact ((h3.2 c5).1 c6)
      · refine a_iinc dX7_neighbours_63 rfl (by decide) rfl ?_
        refine a_iinc dX7_neighbours_66 rfl (by decide) rfl ?_
        refine a_goto (tgt := 5) dX7_neighbours_69 (by decide) ?_
        exact ((h3.2 c5).2 c6)
set_option maxRecDepth 10000 in
theorem sg_X7_comeNearer_0 {d : Nat} {sx : Option (List Int)} (j0 : Nat) (a1 : Int) (mem : AMem) (Q : Option AV → AMem → Prop) (h : (0 ≤ a1 ∧ a1 < 7) ∧ ((0 ≤ a1 ∧ a1 < 7) ∧ (((mem 800 j0 a1) = (mem 7 j0 4) → (((mem 801 j0 a1) = (mem 7 j0 5) → (Y cX7_comeNearer 5 RX7 (d + 1) sx 65 [some (vr 7 j0), some (vi a1), some (vi (mem 800 j0 a1)), some (vi (mem 801 j0 a1)), none] [] mem Q)) ∧ (¬ (mem 801 j0 a1) = (mem 7 j0 5) → (((mem 7 j0 5) ≤ (mem 801 j0 a1) → (Y cX7_comeNearer 5 RX7 (d + 1) sx 65 [some (vr 7 j0), some (vi a1), some (vi (mem 800 j0 a1)), some (vi (w32 ((mem 801 j0 a1) + (-1)))), none] [] mem Q)) ∧ (¬ (mem 7 j0 5) ≤ (mem 801 j0 a1) → (Y cX7_comeNearer 5 RX7 (d + 1) sx 65 [some (vr 7 j0), some (vi a1), some (vi (mem 800 j0 a1)), some (vi (w32 ((mem 801 j0 a1) + 1))), none] [] mem Q)))))) ∧ (¬ (mem 800 j0 a1) = (mem 7 j0 4) → (((mem 7 j0 4) ≤ (mem 800 j0 a1) → (Y cX7_comeNearer 5 RX7 (d + 1) sx 65 [some (vr 7 j0), some (vi a1), some (vi (w32 ((mem 800 j0 a1) + (-1)))), some (vi (mem 801 j0 a1)), none] [] mem Q)) ∧ (¬ (mem 7 j0 4) ≤ (mem 800 j0 a1) → (Y cX7_comeNearer 5 RX7 (d + 1) sx 65 [some (vr 7 j0), some (vi a1), some (vi (w32 ((mem 800 j0 a1) + 1))), some (vi (mem 801 j0 a1)), none] [] mem Q))))))) : Y cX7_comeNearer 5 RX7 (d + 1) sx 0 [some (vr 7 j0), some (vi a1), none, none, none] [] mem Q := by
  refine a_aload_n dX7_comeNearer_0 rfl rfl ?_
  refine gf_X7_9 dX7_comeNearer_1 ?_
  refine a_iload_n dX7_comeNearer_4 rfl rfl ?_
  refine a_iald rfl rfl (by decide) rfl dX7_comeNearer_5 ⟨h.1, ?_⟩
  refine a_istore_n dX7_comeNearer_6 rfl (by decide) rfl ?_
  refine a_aload_n dX7_comeNearer_7 rfl rfl ?_
  refine gf_X7_15 dX7_comeNearer_8 ?_
  refine a_iload_n dX7_comeNearer_11 rfl rfl ?_
  refine a_iald rfl rfl (by decide) rfl dX7_comeNearer_12 ⟨h.2.1, ?_⟩
  refine a_istore_n dX7_comeNearer_13 rfl (by decide) rfl ?_
  refine a_iload_n dX7_comeNearer_14 rfl rfl ?_
  refine a_aload_n dX7_comeNearer_15 rfl rfl ?_
  refine gf_X7_39 (x := mem 7 j0 4) rfl dX7_comeNearer_16 ?_
  refine a_icmp_eq (tgt := 41) dX7_comeNearer_19 (by decide) ⟨fun c1 => ?_, fun c1 => ?_⟩
  · refine a_iload_n dX7_comeNearer_41 rfl rfl ?_
    refine a_aload_n dX7_comeNearer_42 rfl rfl ?_
    refine gf_X7_42 (x := mem 7 j0 5) rfl dX7_comeNearer_43 ?_
    refine a_icmp_eq (tgt := 65) dX7_comeNearer_46 (by decide) ⟨fun c2 => ?_, fun c2 => ?_⟩
    · exact ((h.2.2.1 c1).1 c2)
    · refine a_iload_n dX7_comeNearer_49 rfl rfl ?_
      refine a_iload_n dX7_comeNearer_50 rfl rfl ?_
      refine a_aload_n dX7_comeNearer_51 rfl rfl ?_
      refine gf_X7_42 (x := mem 7 j0 5) rfl dX7_comeNearer_52 ?_
      refine a_icmp_ge (tgt := 62) dX7_comeNearer_55 (by decide) ⟨fun c3 => ?_, fun c3 => ?_⟩
      · refine a_iconst (k := (-1)) dX7_comeNearer_62 (n_lit (by decide)) ?_
        refine a_iadd dX7_comeNearer_63 ?_
        refine a_istore_n dX7_comeNearer_64 rfl (by decide) rfl ?_
        exact (((h.2.2.1 c1).2 c2).1 c3)
      · refine a_iconst (k := 1) dX7_comeNearer_58 (n_lit (by decide)) ?_
        refine a_goto (tgt := 63) dX7_comeNearer_59 (by decide) ?_
        refine a_iadd dX7_comeNearer_63 ?_
        refine a_istore_n dX7_comeNearer_64 rfl (by decide) rfl ?_
        exact (((h.2.2.1 c1).2 c2).2 c3)
  · refine a_iload_n dX7_comeNearer_22 rfl rfl ?_
    refine a_iload_n dX7_comeNearer_23 rfl rfl ?_
    refine a_aload_n dX7_comeNearer_24 rfl rfl ?_
    refine gf_X7_39 (x := mem 7 j0 4) rfl dX7_comeNearer_25 ?_
    refine a_icmp_ge (tgt := 35) dX7_comeNearer_28 (by decide) ⟨fun c4 => ?_, fun c4 => ?_⟩
    · refine a_iconst (k := (-1)) dX7_comeNearer_35 (n_lit (by decide)) ?_
      refine a_iadd dX7_comeNearer_36 ?_
      refine a_istore_n dX7_comeNearer_37 rfl (by decide) rfl ?_
      refine a_goto (tgt := 65) dX7_comeNearer_38 (by decide) ?_
      exact ((h.2.2.2 c1).1 c4)
    · refine a_iconst (k := 1) dX7_comeNearer_31 (n_lit (by decide)) ?_
      refine a_goto (tgt := 36) dX7_comeNearer_32 (by decide) ?_
      refine a_iadd dX7_comeNearer_36 ?_
      refine a_istore_n dX7_comeNearer_37 rfl (by decide) rfl ?_
      refine a_goto (tgt := 65) dX7_comeNearer_38 (by decide) ?_
      exact ((h.2.2.2 c1).2 c4)
set_option maxRecDepth 10000 in
theorem sg_X7_comeNearer_65 {d : Nat} {sx : Option (List Int)} (j0 : Nat) (a1 : Int) (a2 : Int) (a3 : Int) (mem : AMem) (Q : Option AV → AMem → Prop) (h : (a2 ≠ (mem 7 j0 4) → (Y cX7_comeNearer 5 RX7 (d + 1) sx 85 [some (vr 7 j0), some (vi a1), some (vi a2), some (vi a3), none] [] mem Q)) ∧ (a2 = (mem 7 j0 4) → ((a3 ≠ (mem 7 j0 5) → (Y cX7_comeNearer 5 RX7 (d + 1) sx 85 [some (vr 7 j0), some (vi a1), some (vi a2), some (vi a3), none] [] mem Q)) ∧ (a3 = (mem 7 j0 5) → ((a3 < (1 : Int) → (Q none mem)) ∧ (¬ a3 < (1 : Int) → (((1 : Int) ≠ (0 : Int) → (Q none mem)) ∧ ((1 : Int) = (0 : Int) → ((0 ≤ a1 ∧ a1 < 7) ∧ ((0 ≤ a1 ∧ a1 < 7) ∧ (Q none (upM (upM mem 800 j0 a1 a2) 801 j0 a1 a3)))))))))))) : Y cX7_comeNearer 5 RX7 (d + 1) sx 65 [some (vr 7 j0), some (vi a1), some (vi a2), some (vi a3), none] [] mem Q := by
  refine a_iload_n dX7_comeNearer_65 rfl rfl ?_
  refine a_aload_n dX7_comeNearer_66 rfl rfl ?_
  refine gf_X7_39 (x := mem 7 j0 4) rfl dX7_comeNearer_67 ?_
  refine a_icmp_ne (tgt := 85) dX7_comeNearer_70 (by decide) ⟨fun c1 => ?_, fun c1 => ?_⟩
  · exact (h.1 c1)
  · refine a_iload_n dX7_comeNearer_73 rfl rfl ?_
    refine a_aload_n dX7_comeNearer_74 rfl rfl ?_
    refine gf_X7_42 (x := mem 7 j0 5) rfl dX7_comeNearer_75 ?_
    refine a_icmp_ne (tgt := 85) dX7_comeNearer_78 (by decide) ⟨fun c2 => ?_, fun c2 => ?_⟩
    · exact ((h.2 c1).1 c2)
    · refine a_iconst (k := 1) dX7_comeNearer_81 (n_lit (by decide)) ?_
      refine a_goto (tgt := 86) dX7_comeNearer_82 (by decide) ?_
      refine a_istore dX7_comeNearer_86 (by decide) rfl ?_
      refine a_iload_n dX7_comeNearer_88 rfl rfl ?_
      refine a_iconst (k := 1) dX7_comeNearer_89 (n_lit (by decide)) ?_
      refine a_icmp_lt (tgt := 112) dX7_comeNearer_90 (by decide) ⟨fun c3 => ?_, fun c3 => ?_⟩
      · exact a_vret dX7_comeNearer_112 (((h.2 c1).2 c2).1 c3)
      · refine a_iload dX7_comeNearer_93 rfl ?_
        refine a_if_ne (tgt := 112) dX7_comeNearer_95 (by decide) ⟨fun c4 => ?_, fun c4 => ?_⟩
        · exact a_vret dX7_comeNearer_112 ((((h.2 c1).2 c2).2 c3).1 c4)
        · refine a_aload_n dX7_comeNearer_98 rfl rfl ?_
          refine gf_X7_9 dX7_comeNearer_99 ?_
          refine a_iload_n dX7_comeNearer_102 rfl rfl ?_
          refine a_iload_n dX7_comeNearer_103 rfl rfl ?_
          refine a_iast rfl rfl (by decide) rfl dX7_comeNearer_104 ⟨((((h.2 c1).2 c2).2 c3).2 c4).1, ?_⟩
          refine a_aload_n dX7_comeNearer_105 rfl rfl ?_
          refine gf_X7_15 dX7_comeNearer_106 ?_
          refine a_iload_n dX7_comeNearer_109 rfl rfl ?_
          refine a_iload_n dX7_comeNearer_110 rfl rfl ?_
          refine a_iast rfl rfl (by decide) rfl dX7_comeNearer_111 ⟨((((h.2 c1).2 c2).2 c3).2 c4).2.1, ?_⟩
          exact a_vret dX7_comeNearer_112 ((((h.2 c1).2 c2).2 c3).2 c4).2.2
set_option maxRecDepth 10000 in
theorem sg_X7_comeNearer_85 {d : Nat} {sx : Option (List Int)} (j0 : Nat) (a1 : Int) (a2 : Int) (a3 : Int) (mem : AMem) (Q : Option AV → AMem → Prop) (h : (a3 < (1 : Int) → (Q none mem)) ∧ (¬ a3 < (1 : Int) → (((0 : Int) ≠ (0 : Int) → (Q none mem)) ∧ ((0 : Int) = (0 : Int) → ((0 ≤ a1 ∧ a1 < 7) ∧ ((0 ≤ a1 ∧ a1 < 7) ∧ (Q none (upM (upM mem 800 j0 a1 a2) 801 j0 a1 a3)))))))) : Y cX7_comeNearer 5 RX7 (d + 1) sx 85 [some (vr 7 j0), some (vi a1), some (vi a2), some (vi a3), none] [] mem Q := by
  refine a_iconst (k := 0) dX7_comeNearer_85 (n_lit (by decide)) ?_
  refine a_istore dX7_comeNearer_86 (by decide) rfl ?_
  refine a_iload_n dX7_comeNearer_88 rfl rfl ?_
  refine a_iconst (k := 1) dX7_comeNearer_89 (n_lit (by decide)) ?_
  refine a_icmp_lt (tgt := 112) dX7_comeNearer_90 (by decide) ⟨fun c1 => ?_, fun c1 => ?_⟩
  · exact a_vret dX7_comeNearer_112 (h.1 c1)
  · refine a_iload dX7_comeNearer_93 rfl ?_
    refine a_if_ne (tgt := 112) dX7_comeNearer_95 (by decide) ⟨fun c2 => ?_, fun c2 => ?_⟩
    · exact a_vret dX7_comeNearer_112 ((h.2 c1).1 c2)
    · refine a_aload_n dX7_comeNearer_98 rfl rfl ?_
      refine gf_X7_9 dX7_comeNearer_99 ?_
      refine a_iload_n dX7_comeNearer_102 rfl rfl ?_
      refine a_iload_n dX7_comeNearer_103 rfl rfl ?_
      refine a_iast rfl rfl (by decide) rfl dX7_comeNearer_104 ⟨((h.2 c1).2 c2).1, ?_⟩
      refine a_aload_n dX7_comeNearer_105 rfl rfl ?_
      refine gf_X7_15 dX7_comeNearer_106 ?_
      refine a_iload_n dX7_comeNearer_109 rfl rfl ?_
      refine a_iload_n dX7_comeNearer_110 rfl rfl ?_
      refine a_iast rfl rfl (by decide) rfl dX7_comeNearer_111 ⟨((h.2 c1).2 c2).2.1, ?_⟩
      exact a_vret dX7_comeNearer_112 ((h.2 c1).2 c2).2.2
set_option maxRecDepth 10000 in
theorem sg_X7_isInside_0 {d : Nat} {sx : Option (List Int)} (j0 : Nat) (a1 : Int) (mem : AMem) (Q : Option AV → AMem → Prop) (h : ((an32 (shr32 (mem 7 j0 3) a1) 1) ≠ (1 : Int) → (Q (some (vi 0)) mem)) ∧ ((an32 (shr32 (mem 7 j0 3) a1) 1) = (1 : Int) → (Q (some (vi 1)) mem))) : Y cX7_isInside 2 RX7 (d + 1) sx 0 [some (vr 7 j0), some (vi a1)] [] mem Q := by
  refine a_aload_n dX7_isInside_0 rfl rfl ?_
  refine gf_X7_35 (x := mem 7 j0 3) rfl dX7_isInside_1 ?_
  refine a_iload_n dX7_isInside_4 rfl rfl ?_
  refine a_ishr dX7_isInside_5 ?_
  refine a_iconst (k := 1) dX7_isInside_6 (n_lit (by decide)) ?_
  refine a_iand dX7_isInside_7 ?_
  refine a_iconst (k := 1) dX7_isInside_8 (n_lit (by decide)) ?_
  refine a_icmp_ne (tgt := 16) dX7_isInside_9 (by decide) ⟨fun c1 => ?_, fun c1 => ?_⟩
  · refine a_iconst (k := 0) dX7_isInside_16 (n_lit (by decide)) ?_
    exact a_iret dX7_isInside_17 (h.1 c1)
  · refine a_iconst (k := 1) dX7_isInside_12 (n_lit (by decide)) ?_
    refine a_goto (tgt := 17) dX7_isInside_13 (by decide) ?_
    exact a_iret dX7_isInside_17 (h.2 c1)
set_option maxRecDepth 10000 in
theorem sg_X7_farFromRaider_0 {d : Nat} {sx : Option (List Int)} (j0 : Nat) (a1 : Int) (mem : AMem) (Q : Option AV → AMem → Prop) (h : (0 ≤ a1 ∧ a1 < 7) ∧ ((0 ≤ a1 ∧ a1 < 7) ∧ (Q (some (vi (w32 ((ab32 (w32 ((mem 800 j0 a1) - (mem 7 j0 4)))) + (ab32 (w32 ((mem 801 j0 a1) - (mem 7 j0 5)))))))) mem))) : Y cX7_farFromRaider 2 RX7 (d + 1) sx 0 [some (vr 7 j0), some (vi a1)] [] mem Q := by
  refine a_aload_n dX7_farFromRaider_0 rfl rfl ?_
  refine gf_X7_9 dX7_farFromRaider_1 ?_
  refine a_iload_n dX7_farFromRaider_4 rfl rfl ?_
  refine a_iald rfl rfl (by decide) rfl dX7_farFromRaider_5 ⟨h.1, ?_⟩
  refine a_aload_n dX7_farFromRaider_6 rfl rfl ?_
  refine gf_X7_39 (x := mem 7 j0 4) rfl dX7_farFromRaider_7 ?_
  refine a_isub dX7_farFromRaider_10 ?_
  refine a_abs ml_X7_153 ms_Math_abs mn_Math mc_Math_abs (by omega) (Nat.le_of_ble_eq_true rfl) dX7_farFromRaider_11 ?_
  refine a_aload_n dX7_farFromRaider_14 rfl rfl ?_
  refine gf_X7_15 dX7_farFromRaider_15 ?_
  refine a_iload_n dX7_farFromRaider_18 rfl rfl ?_
  refine a_iald rfl rfl (by decide) rfl dX7_farFromRaider_19 ⟨h.2.1, ?_⟩
  refine a_aload_n dX7_farFromRaider_20 rfl rfl ?_
  refine gf_X7_42 (x := mem 7 j0 5) rfl dX7_farFromRaider_21 ?_
  refine a_isub dX7_farFromRaider_24 ?_
  refine a_abs ml_X7_153 ms_Math_abs mn_Math mc_Math_abs (by omega) (Nat.le_of_ble_eq_true rfl) dX7_farFromRaider_25 ?_
  refine a_iadd dX7_farFromRaider_28 ?_
  exact a_iret dX7_farFromRaider_29 h.2.2
set_option maxRecDepth 10000 in
theorem sg_X7_cellOf_0 {d : Nat} {sx : Option (List Int)} (j0 : Nat) (a1 : Int) (mem : AMem) (Q : Option AV → AMem → Prop) (h : ((0 : Int) ≤ a1 → ((0 ≤ a1 ∧ a1 < 7) ∧ ((0 ≤ a1 ∧ a1 < 7) ∧ (Q (some (vi (w32 ((w32 (10 * (mem 801 j0 a1))) + (mem 800 j0 a1))))) mem)))) ∧ (¬ (0 : Int) ≤ a1 → (Q (some (vi (w32 ((w32 (10 * (mem 7 j0 5))) + (mem 7 j0 4))))) mem))) : Y cX7_cellOf 2 RX7 (d + 1) sx 0 [some (vr 7 j0), some (vi a1)] [] mem Q := by
  refine a_iload_n dX7_cellOf_0 rfl rfl ?_
  refine a_if_ge (tgt := 19) dX7_cellOf_1 (by decide) ⟨fun c1 => ?_, fun c1 => ?_⟩
  · refine a_bipush (k := 10) dX7_cellOf_19 (by decide) (n_lit (by decide)) ?_
    refine a_aload_n dX7_cellOf_21 rfl rfl ?_
    refine gf_X7_15 dX7_cellOf_22 ?_
    refine a_iload_n dX7_cellOf_25 rfl rfl ?_
    refine a_iald rfl rfl (by decide) rfl dX7_cellOf_26 ⟨(h.1 c1).1, ?_⟩
    refine a_imul dX7_cellOf_27 ?_
    refine a_aload_n dX7_cellOf_28 rfl rfl ?_
    refine gf_X7_9 dX7_cellOf_29 ?_
    refine a_iload_n dX7_cellOf_32 rfl rfl ?_
    refine a_iald rfl rfl (by decide) rfl dX7_cellOf_33 ⟨(h.1 c1).2.1, ?_⟩
    refine a_iadd dX7_cellOf_34 ?_
    exact a_iret dX7_cellOf_35 (h.1 c1).2.2
  · refine a_bipush (k := 10) dX7_cellOf_4 (by decide) (n_lit (by decide)) ?_
    refine a_aload_n dX7_cellOf_6 rfl rfl ?_
    refine gf_X7_42 (x := mem 7 j0 5) rfl dX7_cellOf_7 ?_
    refine a_imul dX7_cellOf_10 ?_
    refine a_aload_n dX7_cellOf_11 rfl rfl ?_
    refine gf_X7_39 (x := mem 7 j0 4) rfl dX7_cellOf_12 ?_
    refine a_iadd dX7_cellOf_15 ?_
    refine a_goto (tgt := 35) dX7_cellOf_16 (by decide) ?_
    exact a_iret dX7_cellOf_35 (h.2 c1)
set_option maxRecDepth 10000 in
theorem sg_X7_points_0 {d : Nat} {sx : Option (List Int)} (j0 : Nat) (mem : AMem) (Q : Option AV → AMem → Prop) (h : ((mem 7 j0 13) ≠ (1 : Int) → (Q (some (vi 0)) mem)) ∧ ((mem 7 j0 13) = (1 : Int) → (MtX yJ6_bitCount_0f7a4 cJ6_bitCount_0f7a4 1 (some .int) d [vi (mem 7 j0 10)] mem (fun r m2 => ∃ x4 : Int, r = some (vi x4) ∧ (Q (some (vi x4)) m2))))) : Y cX7_points 1 RX7 (d + 1) sx 0 [some (vr 7 j0)] [] mem Q := by
  refine a_aload_n dX7_points_0 rfl rfl ?_
  refine gf_X7_66 (x := mem 7 j0 13) rfl dX7_points_1 ?_
  refine a_iconst (k := 1) dX7_points_4 (n_lit (by decide)) ?_
  refine a_icmp_ne (tgt := 18) dX7_points_5 (by decide) ⟨fun c1 => ?_, fun c1 => ?_⟩
  · refine a_iconst (k := 0) dX7_points_18 (n_lit (by decide)) ?_
    exact a_iret dX7_points_19 (h.1 c1)
  · refine a_aload_n dX7_points_8 rfl rfl ?_
    refine gf_X7_57 (x := mem 7 j0 10) rfl dX7_points_9 ?_
    refine iv_X7_137 dX7_points_12 (Nat.le_of_ble_eq_true rfl) (MtX_mono (h.2 c1) (fun r m2 hq => ?_))
    obtain ⟨x4, rfl, h3⟩ := hq
    refine ⟨x4, rfl, ?_⟩
    refine a_goto (tgt := 19) dX7_points_15 (by decide) ?_
    exact a_iret dX7_points_19 h3
set_option maxRecDepth 10000 in
theorem sg_X7_pointsForThem_0 {d : Nat} {sx : Option (List Int)} (j0 : Nat) (mem : AMem) (Q : Option AV → AMem → Prop) (h : ((mem 7 j0 13) ≠ (1 : Int) → (MtX yX2_pointsForCatch cX2_pointsForCatch 1 (some .int) d [vr 2 0] mem (fun r m2 => ∃ x4 : Int, r = some (vi x4) ∧ (Q (some (vi x4)) m2)))) ∧ ((mem 7 j0 13) = (1 : Int) → (((mem 7 j0 10) ≠ (0 : Int) → (Q (some (vi 0)) mem)) ∧ ((mem 7 j0 10) = (0 : Int) → ((0 ≤ (8 : Int) ∧ (8 : Int) < 14) ∧ (((mem 303 0 8) ≤ (mem 7 j0 9) → (Q (some (vi 0)) mem)) ∧ (¬ (mem 303 0 8) ≤ (mem 7 j0 9) → (Q (some (vi 1)) mem)))))))) : Y cX7_pointsForThem 2 RX7 (d + 1) sx 0 [some (vr 7 j0), some (vr 2 0)] [] mem Q := by
  refine a_aload_n dX7_pointsForThem_0 rfl rfl ?_
  refine gf_X7_66 (x := mem 7 j0 13) rfl dX7_pointsForThem_1 ?_
  refine a_iconst (k := 1) dX7_pointsForThem_4 (n_lit (by decide)) ?_
  refine a_icmp_ne (tgt := 35) dX7_pointsForThem_5 (by decide) ⟨fun c1 => ?_, fun c1 => ?_⟩
  · refine a_aload_n dX7_pointsForThem_35 rfl rfl ?_
    refine iv_X7_156 dX7_pointsForThem_36 (Nat.le_of_ble_eq_true rfl) (MtX_mono (h.1 c1) (fun r m2 hq => ?_))
    obtain ⟨x4, rfl, h3⟩ := hq
    refine ⟨x4, rfl, ?_⟩
    exact a_iret dX7_pointsForThem_39 h3
  · refine a_aload_n dX7_pointsForThem_8 rfl rfl ?_
    refine gf_X7_57 (x := mem 7 j0 10) rfl dX7_pointsForThem_9 ?_
    refine a_if_ne (tgt := 33) dX7_pointsForThem_12 (by decide) ⟨fun c5 => ?_, fun c5 => ?_⟩
    · refine a_iconst (k := 0) dX7_pointsForThem_33 (n_lit (by decide)) ?_
      exact a_iret dX7_pointsForThem_34 ((h.2 c1).1 c5)
    · refine a_aload_n dX7_pointsForThem_15 rfl rfl ?_
      refine gf_X7_54 (x := mem 7 j0 9) rfl dX7_pointsForThem_16 ?_
      refine a_aload_n dX7_pointsForThem_19 rfl rfl ?_
      refine gf_X7_36 dX7_pointsForThem_20 ?_
      refine a_bipush (k := 8) dX7_pointsForThem_23 (by decide) (n_lit (by decide)) ?_
      refine a_iald rfl rfl (by decide) rfl dX7_pointsForThem_25 ⟨((h.2 c1).2 c5).1, ?_⟩
      refine a_icmp_ge (tgt := 33) dX7_pointsForThem_26 (by decide) ⟨fun c6 => ?_, fun c6 => ?_⟩
      · refine a_iconst (k := 0) dX7_pointsForThem_33 (n_lit (by decide)) ?_
        exact a_iret dX7_pointsForThem_34 (((h.2 c1).2 c5).2.1 c6)
      · refine a_iconst (k := 1) dX7_pointsForThem_29 (n_lit (by decide)) ?_
        refine a_goto (tgt := 34) dX7_pointsForThem_30 (by decide) ?_
        exact a_iret dX7_pointsForThem_34 (((h.2 c1).2 c5).2.2 c6)
