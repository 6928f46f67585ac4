set_option maxRecDepth 10000 in
theorem sg_X7_goOnFrom_0 {d : Nat} {sx : Option (List Int)} (j0 : Nat) (j1 : Nat) (hne : j1 ≠ j0) (mem : AMem) (Q : Option AV → AMem → Prop) (h : MtX yX7_copyPlaces cX7_copyPlaces 4 none d [vr 7 j0, vr 800 j1, vr 801 j1] mem (fun r m1 => r = none ∧ (Q none (upM (upM (upM (upM (upM (upM (upM (upM (upM (upM (upM m1 7 j0 3 (m1 7 j1 3)) 7 j0 4 (m1 7 j1 4)) 7 j0 5 (m1 7 j1 5)) 7 j0 6 (m1 7 j1 6)) 7 j0 7 (m1 7 j1 7)) 7 j0 8 (m1 7 j1 8)) 7 j0 9 (m1 7 j1 9)) 7 j0 10 (m1 7 j1 10)) 7 j0 11 (m1 7 j1 11)) 7 j0 12 (m1 7 j1 12)) 7 j0 13 (m1 7 j1 13))))) : Y cX7_goOnFrom 2 RX7 (d + 1) sx 0 [some (vr 7 j0), some (vr 7 j1)] [] mem Q := by
  refine a_aload_n dX7_goOnFrom_0 rfl rfl ?_
  refine a_aload_n dX7_goOnFrom_1 rfl rfl ?_
  refine gf_X7_9 dX7_goOnFrom_2 ?_
  refine a_aload_n dX7_goOnFrom_5 rfl rfl ?_
  refine gf_X7_15 dX7_goOnFrom_6 ?_
  refine iv_X7_27 dX7_goOnFrom_9 (Nat.le_of_ble_eq_true rfl) (MtX_mono h (fun r m1 hq => ?_))
  obtain ⟨rfl, h2⟩ := hq
  refine ⟨rfl, ?_⟩
  refine a_aload_n dX7_goOnFrom_12 rfl rfl ?_
  refine a_aload_n dX7_goOnFrom_13 rfl rfl ?_
  refine gf_X7_35 (x := m1 7 j1 3) rfl dX7_goOnFrom_14 ?_
  refine pf_X7_35 dX7_goOnFrom_17 ?_
  refine a_aload_n dX7_goOnFrom_20 rfl rfl ?_
  refine a_aload_n dX7_goOnFrom_21 rfl rfl ?_
  refine gf_X7_39 (x := m1 7 j1 4) (by simp [upM, hne, hne.symm]) dX7_goOnFrom_22 ?_
  refine pf_X7_39 dX7_goOnFrom_25 ?_
  refine a_aload_n dX7_goOnFrom_28 rfl rfl ?_
  refine a_aload_n dX7_goOnFrom_29 rfl rfl ?_
  refine gf_X7_42 (x := m1 7 j1 5) (by simp [upM, hne, hne.symm]) dX7_goOnFrom_30 ?_
  refine pf_X7_42 dX7_goOnFrom_33 ?_
  refine a_aload_n dX7_goOnFrom_36 rfl rfl ?_
  refine a_aload_n dX7_goOnFrom_37 rfl rfl ?_
  refine gf_X7_45 (x := m1 7 j1 6) (by simp [upM, hne, hne.symm]) dX7_goOnFrom_38 ?_
  refine pf_X7_45 dX7_goOnFrom_41 ?_
  refine a_aload_n dX7_goOnFrom_44 rfl rfl ?_
  refine a_aload_n dX7_goOnFrom_45 rfl rfl ?_
  refine gf_X7_48 (x := m1 7 j1 7) (by simp [upM, hne, hne.symm]) dX7_goOnFrom_46 ?_
  refine pf_X7_48 dX7_goOnFrom_49 ?_
  refine a_aload_n dX7_goOnFrom_52 rfl rfl ?_
  refine a_aload_n dX7_goOnFrom_53 rfl rfl ?_
  refine gf_X7_51 (x := m1 7 j1 8) (by simp [upM, hne, hne.symm]) dX7_goOnFrom_54 ?_
  refine pf_X7_51 dX7_goOnFrom_57 ?_
  refine a_aload_n dX7_goOnFrom_60 rfl rfl ?_
  refine a_aload_n dX7_goOnFrom_61 rfl rfl ?_
  refine gf_X7_54 (x := m1 7 j1 9) (by simp [upM, hne, hne.symm]) dX7_goOnFrom_62 ?_
  refine pf_X7_54 dX7_goOnFrom_65 ?_
  refine a_aload_n dX7_goOnFrom_68 rfl rfl ?_
  refine a_aload_n dX7_goOnFrom_69 rfl rfl ?_
  refine gf_X7_57 (x := m1 7 j1 10) (by simp [upM, hne, hne.symm]) dX7_goOnFrom_70 ?_
  refine pf_X7_57 dX7_goOnFrom_73 ?_
  refine a_aload_n dX7_goOnFrom_76 rfl rfl ?_
  refine a_aload_n dX7_goOnFrom_77 rfl rfl ?_
  refine gf_X7_60 (x := m1 7 j1 11) (by simp [upM, hne, hne.symm]) dX7_goOnFrom_78 ?_
  refine pf_X7_60 dX7_goOnFrom_81 ?_
  refine a_aload_n dX7_goOnFrom_84 rfl rfl ?_
  refine a_aload_n dX7_goOnFrom_85 rfl rfl ?_
  refine gf_X7_63 (x := m1 7 j1 12) (by simp [upM, hne, hne.symm]) dX7_goOnFrom_86 ?_
  refine pf_X7_63 dX7_goOnFrom_89 ?_
  refine a_aload_n dX7_goOnFrom_92 rfl rfl ?_
  refine a_aload_n dX7_goOnFrom_93 rfl rfl ?_
  refine gf_X7_66 (x := m1 7 j1 13) (by simp [upM, hne, hne.symm]) dX7_goOnFrom_94 ?_
  refine pf_X7_66 dX7_goOnFrom_97 ?_
  exact a_vret dX7_goOnFrom_100 h2
