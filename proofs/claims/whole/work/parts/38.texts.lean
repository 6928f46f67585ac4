set_option maxRecDepth 10000 in
theorem sg_J1_indexOfChar_4cfef_a_0 {d : Nat} {sx : Option (List Int)} (a1 : Int) (a2 : Int) (a3 : Int) (mem : AMem) (Q : Option AV → AMem → Prop) (h : Y cJ1_indexOfChar_4cfef 6 RJ1 (d + 1) sx 7 [some (vr 2030 0), some (vi a1), some (vi a2), some (vi a3), some (vi (b8 a1)), some (vi a2)] [] mem Q) : Y cJ1_indexOfChar_4cfef 6 RJ1 (d + 1) sx 0 [some (vr 2030 0), some (vi a1), some (vi a2), some (vi a3), none, none] [] mem Q := by
  refine a_iload_n dJ1_indexOfChar_4cfef_0 rfl rfl ?_
  refine a_i2b dJ1_indexOfChar_4cfef_1 ?_
  refine a_istore dJ1_indexOfChar_4cfef_2 (by decide) rfl ?_
  refine a_iload_n dJ1_indexOfChar_4cfef_4 rfl rfl ?_
  refine a_istore dJ1_indexOfChar_4cfef_5 (by decide) rfl ?_
  exact h
set_option maxRecDepth 10000 in
theorem sg_J1_indexOfChar_4cfef_a_7 {d : Nat} {sx : Option (List Int)} (a1 : Int) (a2 : Int) (a3 : Int) (a4 : Int) (a5 : Int) (mem : AMem) (Q : Option AV → AMem → Prop) (h : (a3 ≤ a5 → (Q (some (vi (-1))) mem)) ∧ (¬ a3 ≤ a5 → ((0 ≤ a5 ∧ a5 < ((romL 2030).length : Int)) ∧ (((List.getD (romL 2030) (Int.toNat a5) 0) ≠ a4 → (Y cJ1_indexOfChar_4cfef 6 RJ1 (d + 1) sx 7 [some (vr 2030 0), some (vi a1), some (vi a2), some (vi a3), some (vi a4), some (vi (w32 (a5 + 1)))] [] mem Q)) ∧ ((List.getD (romL 2030) (Int.toNat a5) 0) = a4 → (Q (some (vi a5)) mem)))))) : Y cJ1_indexOfChar_4cfef 6 RJ1 (d + 1) sx 7 [some (vr 2030 0), some (vi a1), some (vi a2), some (vi a3), some (vi a4), some (vi a5)] [] mem Q := by
  refine a_iload dJ1_indexOfChar_4cfef_7 rfl ?_
  refine a_iload_n dJ1_indexOfChar_4cfef_9 rfl rfl ?_
  refine a_icmp_ge (tgt := 31) dJ1_indexOfChar_4cfef_10 (by decide) ⟨fun c1 => ?_, fun c1 => ?_⟩
  · refine a_iconst (k := (-1)) dJ1_indexOfChar_4cfef_31 (n_lit (by decide)) ?_
    exact a_iret dJ1_indexOfChar_4cfef_32 (h.1 c1)
  · refine a_aload_n dJ1_indexOfChar_4cfef_13 rfl rfl ?_
    refine a_iload dJ1_indexOfChar_4cfef_14 rfl ?_
    refine a_tbld (i := 0) (by decide) dJ1_indexOfChar_4cfef_16 ⟨(h.2 c1).1, ?_⟩
    refine a_iload dJ1_indexOfChar_4cfef_17 rfl ?_
    refine a_icmp_ne (tgt := 25) dJ1_indexOfChar_4cfef_19 (by decide) ⟨fun c2 => ?_, fun c2 => ?_⟩
    · refine a_iinc dJ1_indexOfChar_4cfef_25 rfl (by decide) rfl ?_
      refine a_goto (tgt := 7) dJ1_indexOfChar_4cfef_28 (by decide) ?_
      exact ((h.2 c1).2.1 c2)
    · refine a_iload dJ1_indexOfChar_4cfef_22 rfl ?_
      exact a_iret dJ1_indexOfChar_4cfef_24 ((h.2 c1).2.2 c2)
set_option maxRecDepth 10000 in
theorem sg_J1_indexOf_4cfef_a_0 {d : Nat} {sx : Option (List Int)} (a1 : Int) (a2 : Int) (a3 : Int) (mem : AMem) (Q : Option AV → AMem → Prop) (h : MtX yJ1_canEncode_9a6ad cJ1_canEncode_9a6ad 1 (some .boolean) d [vi a1] mem (fun r m1 => ∃ x3 : Int, r = some (vi x3) ∧ ((x3 ≠ (0 : Int) → (((max a2 0) < (min a3 6) → (MtX yJ1_indexOfChar_4cfef cJ1_indexOfChar_4cfef 6 (some .int) d [vr 2030 0, vi a1, vi (max a2 0), vi (min a3 6)] m1 (fun r m6 => ∃ x8 : Int, r = some (vi x8) ∧ (Q (some (vi x8)) m6)))) ∧ (¬ (max a2 0) < (min a3 6) → (Q (some (vi (-1))) m1)))) ∧ (x3 = (0 : Int) → (Q (some (vi (-1))) m1))))) : Y cJ1_indexOf_4cfef 4 RJ1 (d + 1) sx 0 [some (vr 2030 0), some (vi a1), some (vi a2), some (vi a3)] [] mem Q := by
  refine a_iload_n dJ1_indexOf_4cfef_0 rfl rfl ?_
  refine iv_J1_88 dJ1_indexOf_4cfef_1 (Nat.le_of_ble_eq_true rfl) (MtX_mono h (fun r m1 hq => ?_))
  obtain ⟨x3, rfl, h2⟩ := hq
  refine ⟨x3, rfl, ?_⟩
  refine a_if_ne (tgt := 9) dJ1_indexOf_4cfef_4 (by decide) ⟨fun c4 => ?_, fun c4 => ?_⟩
  · refine a_iload_n dJ1_indexOf_4cfef_9 rfl rfl ?_
    refine a_iconst (k := 0) dJ1_indexOf_4cfef_10 (n_lit (by decide)) ?_
    refine a_max ml_J1_92 ms_Math_max mn_Math mc_Math_max (by omega) (Nat.le_of_ble_eq_true rfl) dJ1_indexOf_4cfef_11 ?_
    refine a_istore_n dJ1_indexOf_4cfef_14 rfl (by decide) rfl ?_
    refine a_iload_n dJ1_indexOf_4cfef_15 rfl rfl ?_
    refine a_aload_n dJ1_indexOf_4cfef_16 rfl rfl ?_
    refine a_tblen (i := 0) (n := 6) (by decide) rfl dJ1_indexOf_4cfef_17 ?_
    refine a_min ml_J1_38 ms_Math_min mn_Math mc_Math_min (by omega) (Nat.le_of_ble_eq_true rfl) dJ1_indexOf_4cfef_18 ?_
    refine a_istore_n dJ1_indexOf_4cfef_21 rfl (by decide) rfl ?_
    refine a_iload_n dJ1_indexOf_4cfef_22 rfl rfl ?_
    refine a_iload_n dJ1_indexOf_4cfef_23 rfl rfl ?_
    refine a_icmp_lt (tgt := 29) dJ1_indexOf_4cfef_24 (by decide) ⟨fun c5 => ?_, fun c5 => ?_⟩
    · refine a_aload_n dJ1_indexOf_4cfef_29 rfl rfl ?_
      refine a_iload_n dJ1_indexOf_4cfef_30 rfl rfl ?_
      refine a_iload_n dJ1_indexOf_4cfef_31 rfl rfl ?_
      refine a_iload_n dJ1_indexOf_4cfef_32 rfl rfl ?_
      refine iv_J1_95 dJ1_indexOf_4cfef_33 (Nat.le_of_ble_eq_true rfl) (MtX_mono ((h2.1 c4).1 c5) (fun r m6 hq => ?_))
      obtain ⟨x8, rfl, h7⟩ := hq
      refine ⟨x8, rfl, ?_⟩
      exact a_iret dJ1_indexOf_4cfef_36 h7
    · refine a_iconst (k := (-1)) dJ1_indexOf_4cfef_27 (n_lit (by decide)) ?_
      exact a_iret dJ1_indexOf_4cfef_28 ((h2.1 c4).2 c5)
  · refine a_iconst (k := (-1)) dJ1_indexOf_4cfef_7 (n_lit (by decide)) ?_
    exact a_iret dJ1_indexOf_4cfef_8 (h2.2 c4)
set_option maxRecDepth 10000 in
theorem sg_J0_coder_7d493_a_0 {d : Nat} {sx : Option (List Int)}  (mem : AMem) (Q : Option AV → AMem → Prop) (h : ((1 : Int) = (0 : Int) → (Q (some (vi 1)) mem)) ∧ (¬ (1 : Int) = (0 : Int) → (Q (some (vi 0)) mem))) : Y cJ0_coder_7d493 1 RJ0 (d + 1) sx 0 [some (vr 2020 0)] [] mem Q := by
  refine a_compact fl_J0_38 dJ0_coder_7d493_0 ?_
  refine a_if_eq (tgt := 13) dJ0_coder_7d493_3 (by decide) ⟨fun c1 => ?_, fun c1 => ?_⟩
  · refine a_iconst (k := 1) dJ0_coder_7d493_13 (n_lit (by decide)) ?_
    exact a_iret dJ0_coder_7d493_14 (h.1 c1)
  · refine a_aload_n dJ0_coder_7d493_6 rfl rfl ?_
    refine a_strc (i := 0) (by decide) fl_J0_15 dJ0_coder_7d493_7 ?_
    refine a_goto (tgt := 14) dJ0_coder_7d493_10 (by decide) ?_
    exact a_iret dJ0_coder_7d493_14 (h.2 c1)
set_option maxRecDepth 10000 in
theorem sg_J0_isLatin1_aae02_a_0 {d : Nat} {sx : Option (List Int)}  (mem : AMem) (Q : Option AV → AMem → Prop) (h : ((1 : Int) = (0 : Int) → (Q (some (vi 0)) mem)) ∧ (¬ (1 : Int) = (0 : Int) → (((0 : Int) ≠ (0 : Int) → (Q (some (vi 0)) mem)) ∧ ((0 : Int) = (0 : Int) → (Q (some (vi 1)) mem))))) : Y cJ0_isLatin1_aae02 1 RJ0 (d + 1) sx 0 [some (vr 2020 0)] [] mem Q := by
  refine a_compact fl_J0_38 dJ0_isLatin1_aae02_0 ?_
  refine a_if_eq (tgt := 17) dJ0_isLatin1_aae02_3 (by decide) ⟨fun c1 => ?_, fun c1 => ?_⟩
  · refine a_iconst (k := 0) dJ0_isLatin1_aae02_17 (n_lit (by decide)) ?_
    exact a_iret dJ0_isLatin1_aae02_18 (h.1 c1)
  · refine a_aload_n dJ0_isLatin1_aae02_6 rfl rfl ?_
    refine a_strc (i := 0) (by decide) fl_J0_15 dJ0_isLatin1_aae02_7 ?_
    refine a_if_ne (tgt := 17) dJ0_isLatin1_aae02_10 (by decide) ⟨fun c2 => ?_, fun c2 => ?_⟩
    · refine a_iconst (k := 0) dJ0_isLatin1_aae02_17 (n_lit (by decide)) ?_
      exact a_iret dJ0_isLatin1_aae02_18 ((h.2 c1).1 c2)
    · refine a_iconst (k := 1) dJ0_isLatin1_aae02_13 (n_lit (by decide)) ?_
      refine a_goto (tgt := 18) dJ0_isLatin1_aae02_14 (by decide) ?_
      exact a_iret dJ0_isLatin1_aae02_18 ((h.2 c1).2 c2)
set_option maxRecDepth 10000 in
theorem sg_J0_length_8abf5_a_0 {d : Nat} {sx : Option (List Int)}  (mem : AMem) (Q : Option AV → AMem → Prop) (h : MtX yJ0_coder_7d493 cJ0_coder_7d493 1 (some .byte) d [vr 2020 0] mem (fun r m1 => ∃ x3 : Int, r = some (vi x3) ∧ (Q (some (vi (shr32 6 x3))) m1))) : Y cJ0_length_8abf5 1 RJ0 (d + 1) sx 0 [some (vr 2020 0)] [] mem Q := by
  refine a_aload_n dJ0_length_8abf5_0 rfl rfl ?_
  refine a_strv (i := 0) (by decide) fl_J0_9 dJ0_length_8abf5_1 ?_
  refine a_tblen (i := 0) (n := 6) (by decide) rfl dJ0_length_8abf5_4 ?_
  refine a_aload_n dJ0_length_8abf5_5 rfl rfl ?_
  refine iv_J0_335 (i := 0) (by decide) dJ0_length_8abf5_6 (Nat.le_of_ble_eq_true rfl) (MtX_mono h (fun r m1 hq => ?_))
  obtain ⟨x3, rfl, h2⟩ := hq
  refine ⟨x3, rfl, ?_⟩
  refine a_ishr dJ0_length_8abf5_9 ?_
  exact a_iret dJ0_length_8abf5_10 h2
set_option maxRecDepth 10000 in
theorem sg_J0_indexOf_0f7a4_a_0 {d : Nat} {sx : Option (List Int)} (a1 : Int) (mem : AMem) (Q : Option AV → AMem → Prop) (h : MtX yJ0_indexOf_7cf53 cJ0_indexOf_7cf53 3 (some .int) d [vr 2020 0, vi a1, vi 0] mem (fun r m1 => ∃ x3 : Int, r = some (vi x3) ∧ (Q (some (vi x3)) m1))) : Y cJ0_indexOf_0f7a4 2 RJ0 (d + 1) sx 0 [some (vr 2020 0), some (vi a1)] [] mem Q := by
  refine a_aload_n dJ0_indexOf_0f7a4_0 rfl rfl ?_
  refine a_iload_n dJ0_indexOf_0f7a4_1 rfl rfl ?_
  refine a_iconst (k := 0) dJ0_indexOf_0f7a4_2 (n_lit (by decide)) ?_
  refine iv_J0_633 (i := 0) (by decide) dJ0_indexOf_0f7a4_3 (Nat.le_of_ble_eq_true rfl) (MtX_mono h (fun r m1 hq => ?_))
  obtain ⟨x3, rfl, h2⟩ := hq
  refine ⟨x3, rfl, ?_⟩
  exact a_iret dJ0_indexOf_0f7a4_6 h2
set_option maxRecDepth 10000 in
theorem sg_J0_indexOf_7cf53_a_0 {d : Nat} {sx : Option (List Int)} (a1 : Int) (a2 : Int) (mem : AMem) (Q : Option AV → AMem → Prop) (h : MtX yJ0_isLatin1_aae02 cJ0_isLatin1_aae02 1 (some .boolean) d [vr 2020 0] mem (fun r m1 => ∃ x3 : Int, r = some (vi x3) ∧ ((x3 = (0 : Int) → (MtX yJ0_length_8abf5 cJ0_length_8abf5 1 (some .int) d [vr 2020 0] m1 (fun r m5 => ∃ x7 : Int, r = some (vi x7) ∧ (MtX yJ2_indexOf_4cfef cJ2_indexOf_4cfef 4 (some .int) d [vr 2030 0, vi a1, vi a2, vi x7] m5 (fun r m8 => ∃ x10 : Int, r = some (vi x10) ∧ (Q (some (vi x10)) m8)))))) ∧ (¬ x3 = (0 : Int) → (MtX yJ0_length_8abf5 cJ0_length_8abf5 1 (some .int) d [vr 2020 0] m1 (fun r m11 => ∃ x13 : Int, r = some (vi x13) ∧ (MtX yJ1_indexOf_4cfef cJ1_indexOf_4cfef 4 (some .int) d [vr 2030 0, vi a1, vi a2, vi x13] m11 (fun r m14 => ∃ x16 : Int, r = some (vi x16) ∧ (Q (some (vi x16)) m14))))))))) : Y cJ0_indexOf_7cf53 3 RJ0 (d + 1) sx 0 [some (vr 2020 0), some (vi a1), some (vi a2)] [] mem Q := by
  refine a_aload_n dJ0_indexOf_7cf53_0 rfl rfl ?_
  refine iv_J0_492 (i := 0) (by decide) dJ0_indexOf_7cf53_1 (Nat.le_of_ble_eq_true rfl) (MtX_mono h (fun r m1 hq => ?_))
  obtain ⟨x3, rfl, h2⟩ := hq
  refine ⟨x3, rfl, ?_⟩
  refine a_if_eq (tgt := 23) dJ0_indexOf_7cf53_4 (by decide) ⟨fun c4 => ?_, fun c4 => ?_⟩
  · refine a_aload_n dJ0_indexOf_7cf53_23 rfl rfl ?_
    refine a_strv (i := 0) (by decide) fl_J0_9 dJ0_indexOf_7cf53_24 ?_
    refine a_iload_n dJ0_indexOf_7cf53_27 rfl rfl ?_
    refine a_iload_n dJ0_indexOf_7cf53_28 rfl rfl ?_
    refine a_aload_n dJ0_indexOf_7cf53_29 rfl rfl ?_
    refine iv_J0_505 (i := 0) (by decide) dJ0_indexOf_7cf53_30 (Nat.le_of_ble_eq_true rfl) (MtX_mono (h2.1 c4) (fun r m5 hq => ?_))
    obtain ⟨x7, rfl, h6⟩ := hq
    refine ⟨x7, rfl, ?_⟩
    refine iv_J0_640 dJ0_indexOf_7cf53_33 (Nat.le_of_ble_eq_true rfl) (MtX_mono h6 (fun r m8 hq => ?_))
    obtain ⟨x10, rfl, h9⟩ := hq
    refine ⟨x10, rfl, ?_⟩
    exact a_iret dJ0_indexOf_7cf53_36 h9
  · refine a_aload_n dJ0_indexOf_7cf53_7 rfl rfl ?_
    refine a_strv (i := 0) (by decide) fl_J0_9 dJ0_indexOf_7cf53_8 ?_
    refine a_iload_n dJ0_indexOf_7cf53_11 rfl rfl ?_
    refine a_iload_n dJ0_indexOf_7cf53_12 rfl rfl ?_
    refine a_aload_n dJ0_indexOf_7cf53_13 rfl rfl ?_
    refine iv_J0_505 (i := 0) (by decide) dJ0_indexOf_7cf53_14 (Nat.le_of_ble_eq_true rfl) (MtX_mono (h2.2 c4) (fun r m11 hq => ?_))
    obtain ⟨x13, rfl, h12⟩ := hq
    refine ⟨x13, rfl, ?_⟩
    refine iv_J0_637 dJ0_indexOf_7cf53_17 (Nat.le_of_ble_eq_true rfl) (MtX_mono h12 (fun r m14 hq => ?_))
    obtain ⟨x16, rfl, h15⟩ := hq
    refine ⟨x16, rfl, ?_⟩
    refine a_goto (tgt := 36) dJ0_indexOf_7cf53_20 (by decide) ?_
    exact a_iret dJ0_indexOf_7cf53_36 h15
set_option maxRecDepth 10000 in
theorem sg_J1_indexOfChar_4cfef_b_0 {d : Nat} {sx : Option (List Int)} (a1 : Int) (a2 : Int) (a3 : Int) (mem : AMem) (Q : Option AV → AMem → Prop) (h : Y cJ1_indexOfChar_4cfef 6 RJ1 (d + 1) sx 7 [some (vr 2031 0), some (vi a1), some (vi a2), some (vi a3), some (vi (b8 a1)), some (vi a2)] [] mem Q) : Y cJ1_indexOfChar_4cfef 6 RJ1 (d + 1) sx 0 [some (vr 2031 0), some (vi a1), some (vi a2), some (vi a3), none, none] [] mem Q := by
  refine a_iload_n dJ1_indexOfChar_4cfef_0 rfl rfl ?_
  refine a_i2b dJ1_indexOfChar_4cfef_1 ?_
  refine a_istore dJ1_indexOfChar_4cfef_2 (by decide) rfl ?_
  refine a_iload_n dJ1_indexOfChar_4cfef_4 rfl rfl ?_
  refine a_istore dJ1_indexOfChar_4cfef_5 (by decide) rfl ?_
  exact h
set_option maxRecDepth 10000 in
theorem sg_J1_indexOfChar_4cfef_b_7 {d : Nat} {sx : Option (List Int)} (a1 : Int) (a2 : Int) (a3 : Int) (a4 : Int) (a5 : Int) (mem : AMem) (Q : Option AV → AMem → Prop) (h : (a3 ≤ a5 → (Q (some (vi (-1))) mem)) ∧ (¬ a3 ≤ a5 → ((0 ≤ a5 ∧ a5 < ((romL 2031).length : Int)) ∧ (((List.getD (romL 2031) (Int.toNat a5) 0) ≠ a4 → (Y cJ1_indexOfChar_4cfef 6 RJ1 (d + 1) sx 7 [some (vr 2031 0), some (vi a1), some (vi a2), some (vi a3), some (vi a4), some (vi (w32 (a5 + 1)))] [] mem Q)) ∧ ((List.getD (romL 2031) (Int.toNat a5) 0) = a4 → (Q (some (vi a5)) mem)))))) : Y cJ1_indexOfChar_4cfef 6 RJ1 (d + 1) sx 7 [some (vr 2031 0), some (vi a1), some (vi a2), some (vi a3), some (vi a4), some (vi a5)] [] mem Q := by
  refine a_iload dJ1_indexOfChar_4cfef_7 rfl ?_
  refine a_iload_n dJ1_indexOfChar_4cfef_9 rfl rfl ?_
  refine a_icmp_ge (tgt := 31) dJ1_indexOfChar_4cfef_10 (by decide) ⟨fun c1 => ?_, fun c1 => ?_⟩
  · refine a_iconst (k := (-1)) dJ1_indexOfChar_4cfef_31 (n_lit (by decide)) ?_
    exact a_iret dJ1_indexOfChar_4cfef_32 (h.1 c1)
  · refine a_aload_n dJ1_indexOfChar_4cfef_13 rfl rfl ?_
    refine a_iload dJ1_indexOfChar_4cfef_14 rfl ?_
    refine a_tbld (i := 1) (by decide) dJ1_indexOfChar_4cfef_16 ⟨(h.2 c1).1, ?_⟩
    refine a_iload dJ1_indexOfChar_4cfef_17 rfl ?_
    refine a_icmp_ne (tgt := 25) dJ1_indexOfChar_4cfef_19 (by decide) ⟨fun c2 => ?_, fun c2 => ?_⟩
    · refine a_iinc dJ1_indexOfChar_4cfef_25 rfl (by decide) rfl ?_
      refine a_goto (tgt := 7) dJ1_indexOfChar_4cfef_28 (by decide) ?_
      exact ((h.2 c1).2.1 c2)
    · refine a_iload dJ1_indexOfChar_4cfef_22 rfl ?_
      exact a_iret dJ1_indexOfChar_4cfef_24 ((h.2 c1).2.2 c2)
set_option maxRecDepth 10000 in
theorem sg_J1_indexOf_4cfef_b_0 {d : Nat} {sx : Option (List Int)} (a1 : Int) (a2 : Int) (a3 : Int) (mem : AMem) (Q : Option AV → AMem → Prop) (h : MtX yJ1_canEncode_9a6ad cJ1_canEncode_9a6ad 1 (some .boolean) d [vi a1] mem (fun r m1 => ∃ x3 : Int, r = some (vi x3) ∧ ((x3 ≠ (0 : Int) → (((max a2 0) < (min a3 10) → (MtX yJ1_indexOfChar_4cfef cJ1_indexOfChar_4cfef 6 (some .int) d [vr 2031 0, vi a1, vi (max a2 0), vi (min a3 10)] m1 (fun r m6 => ∃ x8 : Int, r = some (vi x8) ∧ (Q (some (vi x8)) m6)))) ∧ (¬ (max a2 0) < (min a3 10) → (Q (some (vi (-1))) m1)))) ∧ (x3 = (0 : Int) → (Q (some (vi (-1))) m1))))) : Y cJ1_indexOf_4cfef 4 RJ1 (d + 1) sx 0 [some (vr 2031 0), some (vi a1), some (vi a2), some (vi a3)] [] mem Q := by
  refine a_iload_n dJ1_indexOf_4cfef_0 rfl rfl ?_
  refine iv_J1_88 dJ1_indexOf_4cfef_1 (Nat.le_of_ble_eq_true rfl) (MtX_mono h (fun r m1 hq => ?_))
  obtain ⟨x3, rfl, h2⟩ := hq
  refine ⟨x3, rfl, ?_⟩
  refine a_if_ne (tgt := 9) dJ1_indexOf_4cfef_4 (by decide) ⟨fun c4 => ?_, fun c4 => ?_⟩
  · refine a_iload_n dJ1_indexOf_4cfef_9 rfl rfl ?_
    refine a_iconst (k := 0) dJ1_indexOf_4cfef_10 (n_lit (by decide)) ?_
    refine a_max ml_J1_92 ms_Math_max mn_Math mc_Math_max (by omega) (Nat.le_of_ble_eq_true rfl) dJ1_indexOf_4cfef_11 ?_
    refine a_istore_n dJ1_indexOf_4cfef_14 rfl (by decide) rfl ?_
    refine a_iload_n dJ1_indexOf_4cfef_15 rfl rfl ?_
    refine a_aload_n dJ1_indexOf_4cfef_16 rfl rfl ?_
    refine a_tblen (i := 1) (n := 10) (by decide) rfl dJ1_indexOf_4cfef_17 ?_
    refine a_min ml_J1_38 ms_Math_min mn_Math mc_Math_min (by omega) (Nat.le_of_ble_eq_true rfl) dJ1_indexOf_4cfef_18 ?_
    refine a_istore_n dJ1_indexOf_4cfef_21 rfl (by decide) rfl ?_
    refine a_iload_n dJ1_indexOf_4cfef_22 rfl rfl ?_
    refine a_iload_n dJ1_indexOf_4cfef_23 rfl rfl ?_
    refine a_icmp_lt (tgt := 29) dJ1_indexOf_4cfef_24 (by decide) ⟨fun c5 => ?_, fun c5 => ?_⟩
    · refine a_aload_n dJ1_indexOf_4cfef_29 rfl rfl ?_
      refine a_iload_n dJ1_indexOf_4cfef_30 rfl rfl ?_
      refine a_iload_n dJ1_indexOf_4cfef_31 rfl rfl ?_
      refine a_iload_n dJ1_indexOf_4cfef_32 rfl rfl ?_
      refine iv_J1_95 dJ1_indexOf_4cfef_33 (Nat.le_of_ble_eq_true rfl) (MtX_mono ((h2.1 c4).1 c5) (fun r m6 hq => ?_))
      obtain ⟨x8, rfl, h7⟩ := hq
      refine ⟨x8, rfl, ?_⟩
      exact a_iret dJ1_indexOf_4cfef_36 h7
    · refine a_iconst (k := (-1)) dJ1_indexOf_4cfef_27 (n_lit (by decide)) ?_
      exact a_iret dJ1_indexOf_4cfef_28 ((h2.1 c4).2 c5)
  · refine a_iconst (k := (-1)) dJ1_indexOf_4cfef_7 (n_lit (by decide)) ?_
    exact a_iret dJ1_indexOf_4cfef_8 (h2.2 c4)
set_option maxRecDepth 10000 in
theorem sg_J0_coder_7d493_b_0 {d : Nat} {sx : Option (List Int)}  (mem : AMem) (Q : Option AV → AMem → Prop) (h : ((1 : Int) = (0 : Int) → (Q (some (vi 1)) mem)) ∧ (¬ (1 : Int) = (0 : Int) → (Q (some (vi 0)) mem))) : Y cJ0_coder_7d493 1 RJ0 (d + 1) sx 0 [some (vr 2021 0)] [] mem Q := by
  refine a_compact fl_J0_38 dJ0_coder_7d493_0 ?_
  refine a_if_eq (tgt := 13) dJ0_coder_7d493_3 (by decide) ⟨fun c1 => ?_, fun c1 => ?_⟩
  · refine a_iconst (k := 1) dJ0_coder_7d493_13 (n_lit (by decide)) ?_
    exact a_iret dJ0_coder_7d493_14 (h.1 c1)
  · refine a_aload_n dJ0_coder_7d493_6 rfl rfl ?_
    refine a_strc (i := 1) (by decide) fl_J0_15 dJ0_coder_7d493_7 ?_
    refine a_goto (tgt := 14) dJ0_coder_7d493_10 (by decide) ?_
    exact a_iret dJ0_coder_7d493_14 (h.2 c1)
set_option maxRecDepth 10000 in
theorem sg_J0_isLatin1_aae02_b_0 {d : Nat} {sx : Option (List Int)}  (mem : AMem) (Q : Option AV → AMem → Prop) (h : ((1 : Int) = (0 : Int) → (Q (some (vi 0)) mem)) ∧ (¬ (1 : Int) = (0 : Int) → (((0 : Int) ≠ (0 : Int) → (Q (some (vi 0)) mem)) ∧ ((0 : Int) = (0 : Int) → (Q (some (vi 1)) mem))))) : Y cJ0_isLatin1_aae02 1 RJ0 (d + 1) sx 0 [some (vr 2021 0)] [] mem Q := by
  refine a_compact fl_J0_38 dJ0_isLatin1_aae02_0 ?_
  refine a_if_eq (tgt := 17) dJ0_isLatin1_aae02_3 (by decide) ⟨fun c1 => ?_, fun c1 => ?_⟩
  · refine a_iconst (k := 0) dJ0_isLatin1_aae02_17 (n_lit (by decide)) ?_
    exact a_iret dJ0_isLatin1_aae02_18 (h.1 c1)
  · refine a_aload_n dJ0_isLatin1_aae02_6 rfl rfl ?_
    refine a_strc (i := 1) (by decide) fl_J0_15 dJ0_isLatin1_aae02_7 ?_
    refine a_if_ne (tgt := 17) dJ0_isLatin1_aae02_10 (by decide) ⟨fun c2 => ?_, fun c2 => ?_⟩
    · refine a_iconst (k := 0) dJ0_isLatin1_aae02_17 (n_lit (by decide)) ?_
      exact a_iret dJ0_isLatin1_aae02_18 ((h.2 c1).1 c2)
    · refine a_iconst (k := 1) dJ0_isLatin1_aae02_13 (n_lit (by decide)) ?_
      refine a_goto (tgt := 18) dJ0_isLatin1_aae02_14 (by decide) ?_
      exact a_iret dJ0_isLatin1_aae02_18 ((h.2 c1).2 c2)
set_option maxRecDepth 10000 in
theorem sg_J0_length_8abf5_b_0 {d : Nat} {sx : Option (List Int)}  (mem : AMem) (Q : Option AV → AMem → Prop) (h : MtX yJ0_coder_7d493 cJ0_coder_7d493 1 (some .byte) d [vr 2021 0] mem (fun r m1 => ∃ x3 : Int, r = some (vi x3) ∧ (Q (some (vi (shr32 10 x3))) m1))) : Y cJ0_length_8abf5 1 RJ0 (d + 1) sx 0 [some (vr 2021 0)] [] mem Q := by
  refine a_aload_n dJ0_length_8abf5_0 rfl rfl ?_
  refine a_strv (i := 1) (by decide) fl_J0_9 dJ0_length_8abf5_1 ?_
  refine a_tblen (i := 1) (n := 10) (by decide) rfl dJ0_length_8abf5_4 ?_
  refine a_aload_n dJ0_length_8abf5_5 rfl rfl ?_
  refine iv_J0_335 (i := 1) (by decide) dJ0_length_8abf5_6 (Nat.le_of_ble_eq_true rfl) (MtX_mono h (fun r m1 hq => ?_))
  obtain ⟨x3, rfl, h2⟩ := hq
  refine ⟨x3, rfl, ?_⟩
  refine a_ishr dJ0_length_8abf5_9 ?_
  exact a_iret dJ0_length_8abf5_10 h2
set_option maxRecDepth 10000 in
theorem sg_J0_indexOf_0f7a4_b_0 {d : Nat} {sx : Option (List Int)} (a1 : Int) (mem : AMem) (Q : Option AV → AMem → Prop) (h : MtX yJ0_indexOf_7cf53 cJ0_indexOf_7cf53 3 (some .int) d [vr 2021 0, vi a1, vi 0] mem (fun r m1 => ∃ x3 : Int, r = some (vi x3) ∧ (Q (some (vi x3)) m1))) : Y cJ0_indexOf_0f7a4 2 RJ0 (d + 1) sx 0 [some (vr 2021 0), some (vi a1)] [] mem Q := by
  refine a_aload_n dJ0_indexOf_0f7a4_0 rfl rfl ?_
  refine a_iload_n dJ0_indexOf_0f7a4_1 rfl rfl ?_
  refine a_iconst (k := 0) dJ0_indexOf_0f7a4_2 (n_lit (by decide)) ?_
  refine iv_J0_633 (i := 1) (by decide) dJ0_indexOf_0f7a4_3 (Nat.le_of_ble_eq_true rfl) (MtX_mono h (fun r m1 hq => ?_))
  obtain ⟨x3, rfl, h2⟩ := hq
  refine ⟨x3, rfl, ?_⟩
  exact a_iret dJ0_indexOf_0f7a4_6 h2
set_option maxRecDepth 10000 in
theorem sg_J0_indexOf_7cf53_b_0 {d : Nat} {sx : Option (List Int)} (a1 : Int) (a2 : Int) (mem : AMem) (Q : Option AV → AMem → Prop) (h : MtX yJ0_isLatin1_aae02 cJ0_isLatin1_aae02 1 (some .boolean) d [vr 2021 0] mem (fun r m1 => ∃ x3 : Int, r = some (vi x3) ∧ ((x3 = (0 : Int) → (MtX yJ0_length_8abf5 cJ0_length_8abf5 1 (some .int) d [vr 2021 0] m1 (fun r m5 => ∃ x7 : Int, r = some (vi x7) ∧ (MtX yJ2_indexOf_4cfef cJ2_indexOf_4cfef 4 (some .int) d [vr 2031 0, vi a1, vi a2, vi x7] m5 (fun r m8 => ∃ x10 : Int, r = some (vi x10) ∧ (Q (some (vi x10)) m8)))))) ∧ (¬ x3 = (0 : Int) → (MtX yJ0_length_8abf5 cJ0_length_8abf5 1 (some .int) d [vr 2021 0] m1 (fun r m11 => ∃ x13 : Int, r = some (vi x13) ∧ (MtX yJ1_indexOf_4cfef cJ1_indexOf_4cfef 4 (some .int) d [vr 2031 0, vi a1, vi a2, vi x13] m11 (fun r m14 => ∃ x16 : Int, r = some (vi x16) ∧ (Q (some (vi x16)) m14))))))))) : Y cJ0_indexOf_7cf53 3 RJ0 (d + 1) sx 0 [some (vr 2021 0), some (vi a1), some (vi a2)] [] mem Q := by
  refine a_aload_n dJ0_indexOf_7cf53_0 rfl rfl ?_
  refine iv_J0_492 (i := 1) (by decide) dJ0_indexOf_7cf53_1 (Nat.le_of_ble_eq_true rfl) (MtX_mono h (fun r m1 hq => ?_))
  obtain ⟨x3, rfl, h2⟩ := hq
  refine ⟨x3, rfl, ?_⟩
  refine a_if_eq (tgt := 23) dJ0_indexOf_7cf53_4 (by decide) ⟨fun c4 => ?_, fun c4 => ?_⟩
  · refine a_aload_n dJ0_indexOf_7cf53_23 rfl rfl ?_
    refine a_strv (i := 1) (by decide) fl_J0_9 dJ0_indexOf_7cf53_24 ?_
    refine a_iload_n dJ0_indexOf_7cf53_27 rfl rfl ?_
    refine a_iload_n dJ0_indexOf_7cf53_28 rfl rfl ?_
    refine a_aload_n dJ0_indexOf_7cf53_29 rfl rfl ?_
    refine iv_J0_505 (i := 1) (by decide) dJ0_indexOf_7cf53_30 (Nat.le_of_ble_eq_true rfl) (MtX_mono (h2.1 c4) (fun r m5 hq => ?_))
    obtain ⟨x7, rfl, h6⟩ := hq
    refine ⟨x7, rfl, ?_⟩
    refine iv_J0_640 dJ0_indexOf_7cf53_33 (Nat.le_of_ble_eq_true rfl) (MtX_mono h6 (fun r m8 hq => ?_))
    obtain ⟨x10, rfl, h9⟩ := hq
    refine ⟨x10, rfl, ?_⟩
    exact a_iret dJ0_indexOf_7cf53_36 h9
  · refine a_aload_n dJ0_indexOf_7cf53_7 rfl rfl ?_
    refine a_strv (i := 1) (by decide) fl_J0_9 dJ0_indexOf_7cf53_8 ?_
    refine a_iload_n dJ0_indexOf_7cf53_11 rfl rfl ?_
    refine a_iload_n dJ0_indexOf_7cf53_12 rfl rfl ?_
    refine a_aload_n dJ0_indexOf_7cf53_13 rfl rfl ?_
    refine iv_J0_505 (i := 1) (by decide) dJ0_indexOf_7cf53_14 (Nat.le_of_ble_eq_true rfl) (MtX_mono (h2.2 c4) (fun r m11 hq => ?_))
    obtain ⟨x13, rfl, h12⟩ := hq
    refine ⟨x13, rfl, ?_⟩
    refine iv_J0_637 dJ0_indexOf_7cf53_17 (Nat.le_of_ble_eq_true rfl) (MtX_mono h12 (fun r m14 hq => ?_))
    obtain ⟨x16, rfl, h15⟩ := hq
    refine ⟨x16, rfl, ?_⟩
    refine a_goto (tgt := 36) dJ0_indexOf_7cf53_20 (by decide) ?_
    exact a_iret dJ0_indexOf_7cf53_36 h15
set_option maxRecDepth 10000 in
theorem sg_J1_canEncode_9a6ad_0 {d : Nat} {sx : Option (List Int)} (a0 : Int) (mem : AMem) (Q : Option AV → AMem → Prop) (h : (a0 < (0 : Int) → (Q (some (vi 0)) mem)) ∧ (¬ a0 < (0 : Int) → (((255 : Int) < a0 → (Q (some (vi 0)) mem)) ∧ (¬ (255 : Int) < a0 → (Q (some (vi 1)) mem))))) : Y cJ1_canEncode_9a6ad 1 RJ1 (d + 1) sx 0 [some (vi a0)] [] mem Q := by
  refine a_iload_n dJ1_canEncode_9a6ad_0 rfl rfl ?_
  refine a_if_lt (tgt := 15) dJ1_canEncode_9a6ad_1 (by decide) ⟨fun c1 => ?_, fun c1 => ?_⟩
  · refine a_iconst (k := 0) dJ1_canEncode_9a6ad_15 (n_lit (by decide)) ?_
    exact a_iret dJ1_canEncode_9a6ad_16 (h.1 c1)
  · refine a_iload_n dJ1_canEncode_9a6ad_4 rfl rfl ?_
    refine a_sipush (k := 255) dJ1_canEncode_9a6ad_5 (by decide) (n_lit (by decide)) ?_
    refine a_icmp_gt (tgt := 15) dJ1_canEncode_9a6ad_8 (by decide) ⟨fun c2 => ?_, fun c2 => ?_⟩
    · refine a_iconst (k := 0) dJ1_canEncode_9a6ad_15 (n_lit (by decide)) ?_
      exact a_iret dJ1_canEncode_9a6ad_16 ((h.2 c1).1 c2)
    · refine a_iconst (k := 1) dJ1_canEncode_9a6ad_11 (n_lit (by decide)) ?_
      refine a_goto (tgt := 16) dJ1_canEncode_9a6ad_12 (by decide) ?_
      exact a_iret dJ1_canEncode_9a6ad_16 ((h.2 c1).2 c2)
set_option maxRecDepth 10000 in
theorem sg_X4_readName_0 {d : Nat} {sx : Option (List Int)}  (mem : AMem) (Q : Option AV → AMem → Prop) (h : MtX yX4_sign cX4_sign 1 (some .int) d [vr 4 0] mem (fun r m1 => ∃ x3 : Int, r = some (vi x3) ∧ (((0 : Int) ≤ x3 → (MtX yJ0_indexOf_0f7a4 cJ0_indexOf_0f7a4 2 (some .int) d [vr 2020 0, vi (c16 x3)] m1 (fun r m5 => ∃ x7 : Int, r = some (vi x7) ∧ (((0 : Int) ≤ x7 → (0 ≤ m5 4 0 4 ∧ (MtX yX3_add cX3_add 4 (some .int) d [vr 3 (Int.toNat (m5 4 0 4)), vi 1, vi x7] (upM m5 4 0 2 (w32 ((m5 4 0 2) + 1))) (fun r m9 => ∃ x11 : Int, r = some (vi x11) ∧ ((x7 ≠ (5 : Int) → (Q none m9)) ∧ (x7 = (5 : Int) → (0 ≤ m9 4 0 4 ∧ (Q none (upM m9 3 (Int.toNat (m9 4 0 4)) 4 1))))))))) ∧ (¬ (0 : Int) ≤ x7 → (MtX yX4_fail cX4_fail 1 none d [vr 4 0] m5 (fun r m13 => r = none ∧ (Q none m13)))))))) ∧ (¬ (0 : Int) ≤ x3 → (((0 : Int) ≤ (-1 : Int) → (0 ≤ m1 4 0 4 ∧ (MtX yX3_add cX3_add 4 (some .int) d [vr 3 (Int.toNat (m1 4 0 4)), vi 1, vi (-1)] (upM m1 4 0 2 (w32 ((m1 4 0 2) + 1))) (fun r m16 => ∃ x18 : Int, r = some (vi x18) ∧ (((-1 : Int) ≠ (5 : Int) → (Q none m16)) ∧ ((-1 : Int) = (5 : Int) → (0 ≤ m16 4 0 4 ∧ (Q none (upM m16 3 (Int.toNat (m16 4 0 4)) 4 1))))))))) ∧ (¬ (0 : Int) ≤ (-1 : Int) → (MtX yX4_fail cX4_fail 1 none d [vr 4 0] m1 (fun r m20 => r = none ∧ (Q none m20))))))))) : Y cX4_readName 3 RX4 (d + 1) sx 0 [some (vr 4 0), none, none] [] mem Q := by
  refine a_aload_n dX4_readName_0 rfl rfl ?_
  refine iv_X4_62 dX4_readName_1 (Nat.le_of_ble_eq_true rfl) (MtX_mono h (fun r m1 hq => ?_))
  obtain ⟨x3, rfl, h2⟩ := hq
  refine ⟨x3, rfl, ?_⟩
  refine a_istore_n dX4_readName_4 rfl (by decide) rfl ?_
  refine a_iload_n dX4_readName_5 rfl rfl ?_
  refine a_if_ge (tgt := 13) dX4_readName_6 (by decide) ⟨fun c4 => ?_, fun c4 => ?_⟩
  · refine a_ldcS (k := 2020) (fun hR => hR.2.2.2.1.1) (by decide) dX4_readName_13 ?_
    refine a_iload_n dX4_readName_15 rfl rfl ?_
    refine a_i2c dX4_readName_16 ?_
    refine iv_X4_81 (i := 0) (by decide) dX4_readName_17 (Nat.le_of_ble_eq_true rfl) (MtX_mono (h2.1 c4) (fun r m5 hq => ?_))
    obtain ⟨x7, rfl, h6⟩ := hq
    refine ⟨x7, rfl, ?_⟩
    refine a_istore_n dX4_readName_20 rfl (by decide) rfl ?_
    refine a_iload_n dX4_readName_21 rfl rfl ?_
    refine a_if_ge (tgt := 30) dX4_readName_22 (by decide) ⟨fun c8 => ?_, fun c8 => ?_⟩
    · refine a_aload_n dX4_readName_30 rfl rfl ?_
      refine a_dup dX4_readName_31 rfl ?_
      refine gf_X4_24 (x := m5 4 0 2) rfl dX4_readName_32 ?_
      refine a_iconst (k := 1) dX4_readName_35 (n_lit (by decide)) ?_
      refine a_iadd dX4_readName_36 ?_
      refine pf_X4_24 dX4_readName_37 ?_
      refine a_aload_n dX4_readName_40 rfl rfl ?_
      refine gf_X4_16 (x := m5 4 0 4) rfl dX4_readName_41 ⟨(h6.1 c8).1, ?_⟩
      refine a_iconst (k := 1) dX4_readName_44 (n_lit (by decide)) ?_
      refine a_iload_n dX4_readName_45 rfl rfl ?_
      refine iv_X4_47 dX4_readName_46 (Nat.le_of_ble_eq_true rfl) (MtX_mono (h6.1 c8).2 (fun r m9 hq => ?_))
      obtain ⟨x11, rfl, h10⟩ := hq
      refine ⟨x11, rfl, ?_⟩
      refine a_pop dX4_readName_49 rfl ?_
      refine a_iload_n dX4_readName_50 rfl rfl ?_
      refine a_iconst (k := 5) dX4_readName_51 (n_lit (by decide)) ?_
      refine a_icmp_ne (tgt := 63) dX4_readName_52 (by decide) ⟨fun c12 => ?_, fun c12 => ?_⟩
      · exact a_vret dX4_readName_63 (h10.1 c12)
      · refine a_aload_n dX4_readName_55 rfl rfl ?_
        refine gf_X4_16 (x := m9 4 0 4) rfl dX4_readName_56 ⟨(h10.2 c12).1, ?_⟩
        refine a_iconst (k := 1) dX4_readName_59 (n_lit (by decide)) ?_
        refine pf_X4_86 (Or.inr rfl) dX4_readName_60 ?_
        exact a_vret dX4_readName_63 (h10.2 c12).2
    · refine a_aload_n dX4_readName_25 rfl rfl ?_
      refine iv_X4_40 dX4_readName_26 (Nat.le_of_ble_eq_true rfl) (MtX_mono (h6.2 c8) (fun r m13 hq => ?_))
      obtain ⟨rfl, h14⟩ := hq
      refine ⟨rfl, ?_⟩
      exact a_vret dX4_readName_29 h14
  · refine a_iconst (k := (-1)) dX4_readName_9 (n_lit (by decide)) ?_
    refine a_goto (tgt := 20) dX4_readName_10 (by decide) ?_
    refine a_istore_n dX4_readName_20 rfl (by decide) rfl ?_
    refine a_iload_n dX4_readName_21 rfl rfl ?_
    refine a_if_ge (tgt := 30) dX4_readName_22 (by decide) ⟨fun c15 => ?_, fun c15 => ?_⟩
    · refine a_aload_n dX4_readName_30 rfl rfl ?_
      refine a_dup dX4_readName_31 rfl ?_
      refine gf_X4_24 (x := m1 4 0 2) rfl dX4_readName_32 ?_
      refine a_iconst (k := 1) dX4_readName_35 (n_lit (by decide)) ?_
      refine a_iadd dX4_readName_36 ?_
      refine pf_X4_24 dX4_readName_37 ?_
      refine a_aload_n dX4_readName_40 rfl rfl ?_
      refine gf_X4_16 (x := m1 4 0 4) rfl dX4_readName_41 ⟨((h2.2 c4).1 c15).1, ?_⟩
      refine a_iconst (k := 1) dX4_readName_44 (n_lit (by decide)) ?_
      refine a_iload_n dX4_readName_45 rfl rfl ?_
      refine iv_X4_47 dX4_readName_46 (Nat.le_of_ble_eq_true rfl) (MtX_mono ((h2.2 c4).1 c15).2 (fun r m16 hq => ?_))
      obtain ⟨x18, rfl, h17⟩ := hq
      refine ⟨x18, rfl, ?_⟩
      refine a_pop dX4_readName_49 rfl ?_
      refine a_iload_n dX4_readName_50 rfl rfl ?_
      refine a_iconst (k := 5) dX4_readName_51 (n_lit (by decide)) ?_
      refine a_icmp_ne (tgt := 63) dX4_readName_52 (by decide) ⟨fun c19 => ?_, fun c19 => ?_⟩
      · exact a_vret dX4_readName_63 (h17.1 c19)
      · refine a_aload_n dX4_readName_55 rfl rfl ?_
        refine gf_X4_16 (x := m16 4 0 4) rfl dX4_readName_56 ⟨(h17.2 c19).1, ?_⟩
        refine a_iconst (k := 1) dX4_readName_59 (n_lit (by decide)) ?_
        refine pf_X4_86 (Or.inr rfl) dX4_readName_60 ?_
        exact a_vret dX4_readName_63 (h17.2 c19).2
    · refine a_aload_n dX4_readName_25 rfl rfl ?_
      refine iv_X4_40 dX4_readName_26 (Nat.le_of_ble_eq_true rfl) (MtX_mono ((h2.2 c4).2 c15) (fun r m20 hq => ?_))
      obtain ⟨rfl, h21⟩ := hq
      refine ⟨rfl, ?_⟩
      exact a_vret dX4_readName_29 h21
set_option maxRecDepth 10000 in
theorem sg_X4_takesJoiner_0 {d : Nat} {sx : Option (List Int)} (a1 : Int) (mem : AMem) (Q : Option AV → AMem → Prop) (h : MtX yX4_sign cX4_sign 1 (some .int) d [vr 4 0] mem (fun r m1 => ∃ x3 : Int, r = some (vi x3) ∧ (((0 : Int) ≤ x3 → (MtX yJ0_indexOf_0f7a4 cJ0_indexOf_0f7a4 2 (some .int) d [vr 2021 0, vi (c16 x3)] m1 (fun r m5 => ∃ x7 : Int, r = some (vi x7) ∧ ((x7 < (0 : Int) → (Q (some (vi (-1))) m5)) ∧ (¬ x7 < (0 : Int) → ((0 ≤ x7 ∧ x7 < ((romL 2002).length : Int)) ∧ (((List.getD (romL 2002) (Int.toNat x7) 0) = a1 → (Q (some (vi x7)) (upM m5 4 0 2 (w32 ((m5 4 0 2) + 1))))) ∧ (¬ (List.getD (romL 2002) (Int.toNat x7) 0) = a1 → (Q (some (vi (-1))) m5))))))))) ∧ (¬ (0 : Int) ≤ x3 → (((-1 : Int) < (0 : Int) → (Q (some (vi (-1))) m1)) ∧ (¬ (-1 : Int) < (0 : Int) → ((0 ≤ (-1 : Int) ∧ (-1 : Int) < ((romL 2002).length : Int)) ∧ (((List.getD (romL 2002) (Int.toNat (-1)) 0) = a1 → (Q (some (vi (-1))) (upM m1 4 0 2 (w32 ((m1 4 0 2) + 1))))) ∧ (¬ (List.getD (romL 2002) (Int.toNat (-1)) 0) = a1 → (Q (some (vi (-1))) m1)))))))))) : Y cX4_takesJoiner 4 RX4 (d + 1) sx 0 [some (vr 4 0), some (vi a1), none, none] [] mem Q := by
  refine a_aload_n dX4_takesJoiner_0 rfl rfl ?_
  refine iv_X4_62 dX4_takesJoiner_1 (Nat.le_of_ble_eq_true rfl) (MtX_mono h (fun r m1 hq => ?_))
  obtain ⟨x3, rfl, h2⟩ := hq
  refine ⟨x3, rfl, ?_⟩
  refine a_istore_n dX4_takesJoiner_4 rfl (by decide) rfl ?_
  refine a_iload_n dX4_takesJoiner_5 rfl rfl ?_
  refine a_if_ge (tgt := 13) dX4_takesJoiner_6 (by decide) ⟨fun c4 => ?_, fun c4 => ?_⟩
  · refine a_ldcS (k := 2021) (fun hR => hR.2.2.2.1.2.1) (by decide) dX4_takesJoiner_13 ?_
    refine a_iload_n dX4_takesJoiner_15 rfl rfl ?_
    refine a_i2c dX4_takesJoiner_16 ?_
    refine iv_X4_81 (i := 1) (by decide) dX4_takesJoiner_17 (Nat.le_of_ble_eq_true rfl) (MtX_mono (h2.1 c4) (fun r m5 hq => ?_))
    obtain ⟨x7, rfl, h6⟩ := hq
    refine ⟨x7, rfl, ?_⟩
    refine a_istore_n dX4_takesJoiner_20 rfl (by decide) rfl ?_
    refine a_iload_n dX4_takesJoiner_21 rfl rfl ?_
    refine a_if_lt (tgt := 34) dX4_takesJoiner_22 (by decide) ⟨fun c8 => ?_, fun c8 => ?_⟩
    · refine a_iconst (k := (-1)) dX4_takesJoiner_34 (n_lit (by decide)) ?_
      exact a_iret dX4_takesJoiner_35 (h6.1 c8)
    · refine a_gets (k := 2002) (fun hR => hR.2.1.2.2.1) fl_X4_92 (by decide) dX4_takesJoiner_25 ?_
      refine a_iload_n dX4_takesJoiner_28 rfl rfl ?_
      refine a_rom (by decide) dX4_takesJoiner_29 ⟨(h6.2 c8).1, ?_⟩
      refine a_iload_n dX4_takesJoiner_30 rfl rfl ?_
      refine a_icmp_eq (tgt := 36) dX4_takesJoiner_31 (by decide) ⟨fun c9 => ?_, fun c9 => ?_⟩
      · refine a_aload_n dX4_takesJoiner_36 rfl rfl ?_
        refine a_dup dX4_takesJoiner_37 rfl ?_
        refine gf_X4_24 (x := m5 4 0 2) rfl dX4_takesJoiner_38 ?_
        refine a_iconst (k := 1) dX4_takesJoiner_41 (n_lit (by decide)) ?_
        refine a_iadd dX4_takesJoiner_42 ?_
        refine pf_X4_24 dX4_takesJoiner_43 ?_
        refine a_iload_n dX4_takesJoiner_46 rfl rfl ?_
        exact a_iret dX4_takesJoiner_47 ((h6.2 c8).2.1 c9)
      · refine a_iconst (k := (-1)) dX4_takesJoiner_34 (n_lit (by decide)) ?_
        exact a_iret dX4_takesJoiner_35 ((h6.2 c8).2.2 c9)
  · refine a_iconst (k := (-1)) dX4_takesJoiner_9 (n_lit (by decide)) ?_
    refine a_goto (tgt := 20) dX4_takesJoiner_10 (by decide) ?_
    refine a_istore_n dX4_takesJoiner_20 rfl (by decide) rfl ?_
    refine a_iload_n dX4_takesJoiner_21 rfl rfl ?_
    refine a_if_lt (tgt := 34) dX4_takesJoiner_22 (by decide) ⟨fun c10 => ?_, fun c10 => ?_⟩
    · refine a_iconst (k := (-1)) dX4_takesJoiner_34 (n_lit (by decide)) ?_
      exact a_iret dX4_takesJoiner_35 ((h2.2 c4).1 c10)
    · refine a_gets (k := 2002) (fun hR => hR.2.1.2.2.1) fl_X4_92 (by decide) dX4_takesJoiner_25 ?_
      refine a_iload_n dX4_takesJoiner_28 rfl rfl ?_
      refine a_rom (by decide) dX4_takesJoiner_29 ⟨((h2.2 c4).2 c10).1, ?_⟩
      refine a_iload_n dX4_takesJoiner_30 rfl rfl ?_
      refine a_icmp_eq (tgt := 36) dX4_takesJoiner_31 (by decide) ⟨fun c11 => ?_, fun c11 => ?_⟩
      · refine a_aload_n dX4_takesJoiner_36 rfl rfl ?_
        refine a_dup dX4_takesJoiner_37 rfl ?_
        refine gf_X4_24 (x := m1 4 0 2) rfl dX4_takesJoiner_38 ?_
        refine a_iconst (k := 1) dX4_takesJoiner_41 (n_lit (by decide)) ?_
        refine a_iadd dX4_takesJoiner_42 ?_
        refine pf_X4_24 dX4_takesJoiner_43 ?_
        refine a_iload_n dX4_takesJoiner_46 rfl rfl ?_
        exact a_iret dX4_takesJoiner_47 (((h2.2 c4).2 c10).2.1 c11)
      · refine a_iconst (k := (-1)) dX4_takesJoiner_34 (n_lit (by decide)) ?_
        exact a_iret dX4_takesJoiner_35 (((h2.2 c4).2 c10).2.2 c11)
