theorem dX11_best_15 : decode cX11_best 15 = .ok (.ldc 208, 2) := by decide +kernel
theorem dX11_best_17 : decode cX11_best 17 = .ok (.ireturn, 1) := by decide +kernel
theorem dX11_best_18 : decode cX11_best 18 = .ok (.iload_n 2, 1) := by decide +kernel
theorem dX11_best_19 : decode cX11_best 19 = .ok (.iload_n 1, 1) := by decide +kernel
theorem dX11_best_20 : decode cX11_best 20 = .ok (.if_icmp .lt 6, 3) := by decide +kernel
theorem dX11_best_23 : decode cX11_best 23 = .ok (.bipush (-2), 2) := by decide +kernel
theorem dX11_best_25 : decode cX11_best 25 = .ok (.ireturn, 1) := by decide +kernel
theorem dX11_best_26 : decode cX11_best 26 = .ok (.aload_n 0, 1) := by decide +kernel
theorem dX11_best_27 : decode cX11_best 27 = .ok (.getfield 26, 3) := by decide +kernel
theorem dX11_best_30 : decode cX11_best 30 = .ok (.aload_n 0, 1) := by decide +kernel
theorem dX11_best_31 : decode cX11_best 31 = .ok (.getfield 10, 3) := by decide +kernel
theorem dX11_best_34 : decode cX11_best 34 = .ok (.iload_n 1, 1) := by decide +kernel
theorem dX11_best_35 : decode cX11_best 35 = .ok (.invokevirtual 209, 3) := by decide +kernel
theorem dX11_best_38 : decode cX11_best 38 = .ok (.iload_n 2, 1) := by decide +kernel
theorem dX11_best_39 : decode cX11_best 39 = .ok (.ifCond .ge 13, 3) := by decide +kernel
theorem dX11_best_42 : decode cX11_best 42 = .ok (.aload_n 0, 1) := by decide +kernel
theorem dX11_best_43 : decode cX11_best 43 = .ok (.getfield 26, 3) := by decide +kernel
theorem dX11_best_46 : decode cX11_best 46 = .ok (.getfield 213, 3) := by decide +kernel
theorem dX11_best_49 : decode cX11_best 49 = .ok (.goto 12, 3) := by decide +kernel
theorem dX11_best_52 : decode cX11_best 52 = .ok (.aload_n 0, 1) := by decide +kernel
theorem dX11_best_53 : decode cX11_best 53 = .ok (.getfield 26, 3) := by decide +kernel
theorem dX11_best_56 : decode cX11_best 56 = .ok (.getfield 216, 3) := by decide +kernel
theorem dX11_best_59 : decode cX11_best 59 = .ok (.iload_n 2, 1) := by decide +kernel
theorem dX11_best_60 : decode cX11_best 60 = .ok (.iaload, 1) := by decide +kernel
theorem dX11_best_61 : decode cX11_best 61 = .ok (.ireturn, 1) := by decide +kernel
theorem dX11_touch_0 : decode cX11_touch 0 = .ok (.aload_n 0, 1) := by decide +kernel
theorem dX11_touch_1 : decode cX11_touch 1 = .ok (.getfield 10, 3) := by decide +kernel
theorem dX11_touch_4 : decode cX11_touch 4 = .ok (.iload_n 1, 1) := by decide +kernel
theorem dX11_touch_5 : decode cX11_touch 5 = .ok (.invokevirtual 143, 3) := by decide +kernel
theorem dX11_touch_8 : decode cX11_touch 8 = .ok (.ifCond .eq 8, 3) := by decide +kernel
theorem dX11_touch_11 : decode cX11_touch 11 = .ok (.iload_n 2, 1) := by decide +kernel
theorem dX11_touch_12 : decode cX11_touch 12 = .ok (.iconst (-1), 1) := by decide +kernel
theorem dX11_touch_13 : decode cX11_touch 13 = .ok (.if_icmp .ge 5, 3) := by decide +kernel
theorem dX11_touch_16 : decode cX11_touch 16 = .ok (.iconst (-1), 1) := by decide +kernel
theorem dX11_touch_17 : decode cX11_touch 17 = .ok (.ireturn, 1) := by decide +kernel
theorem dX11_touch_18 : decode cX11_touch 18 = .ok (.aload_n 0, 1) := by decide +kernel
theorem dX11_touch_19 : decode cX11_touch 19 = .ok (.getfield 26, 3) := by decide +kernel
theorem dX11_touch_22 : decode cX11_touch 22 = .ok (.aload_n 0, 1) := by decide +kernel
theorem dX11_touch_23 : decode cX11_touch 23 = .ok (.getfield 10, 3) := by decide +kernel
theorem dX11_touch_26 : decode cX11_touch 26 = .ok (.iload_n 1, 1) := by decide +kernel
theorem dX11_touch_27 : decode cX11_touch 27 = .ok (.invokevirtual 219, 3) := by decide +kernel
theorem dX11_touch_30 : decode cX11_touch 30 = .ok (.istore_n 3, 1) := by decide +kernel
theorem dX11_touch_31 : decode cX11_touch 31 = .ok (.iload_n 3, 1) := by decide +kernel
theorem dX11_touch_32 : decode cX11_touch 32 = .ok (.ifCond .eq 8, 3) := by decide +kernel
theorem dX11_touch_35 : decode cX11_touch 35 = .ok (.iload_n 2, 1) := by decide +kernel
theorem dX11_touch_36 : decode cX11_touch 36 = .ok (.iload_n 3, 1) := by decide +kernel
theorem dX11_touch_37 : decode cX11_touch 37 = .ok (.if_icmp .lt 6, 3) := by decide +kernel
theorem dX11_touch_40 : decode cX11_touch 40 = .ok (.bipush (-2), 2) := by decide +kernel
theorem dX11_touch_42 : decode cX11_touch 42 = .ok (.ireturn, 1) := by decide +kernel
theorem dX11_touch_43 : decode cX11_touch 43 = .ok (.iload_n 2, 1) := by decide +kernel
theorem dX11_touch_44 : decode cX11_touch 44 = .ok (.ifCond .ge 7, 3) := by decide +kernel
theorem dX11_touch_47 : decode cX11_touch 47 = .ok (.iload_n 3, 1) := by decide +kernel
theorem dX11_touch_48 : decode cX11_touch 48 = .ok (.goto 12, 3) := by decide +kernel
theorem dX11_touch_51 : decode cX11_touch 51 = .ok (.aload_n 0, 1) := by decide +kernel
theorem dX11_touch_52 : decode cX11_touch 52 = .ok (.getfield 26, 3) := by decide +kernel
theorem dX11_touch_55 : decode cX11_touch 55 = .ok (.getfield 216, 3) := by decide +kernel
theorem dX11_touch_58 : decode cX11_touch 58 = .ok (.iload_n 2, 1) := by decide +kernel
theorem dX11_touch_59 : decode cX11_touch 59 = .ok (.iaload, 1) := by decide +kernel
theorem dX11_touch_60 : decode cX11_touch 60 = .ok (.ireturn, 1) := by decide +kernel
theorem dX11_needs_0 : decode cX11_needs 0 = .ok (.aload_n 0, 1) := by decide +kernel
theorem dX11_needs_1 : decode cX11_needs 1 = .ok (.iload_n 1, 1) := by decide +kernel
theorem dX11_needs_2 : decode cX11_needs 2 = .ok (.invokevirtual 161, 3) := by decide +kernel
theorem dX11_needs_5 : decode cX11_needs 5 = .ok (.istore_n 2, 1) := by decide +kernel
theorem dX11_needs_6 : decode cX11_needs 6 = .ok (.iload_n 2, 1) := by decide +kernel
theorem dX11_needs_7 : decode cX11_needs 7 = .ok (.ifCond .eq 5, 3) := by decide +kernel
theorem dX11_needs_10 : decode cX11_needs 10 = .ok (.iload_n 2, 1) := by decide +kernel
theorem dX11_needs_11 : decode cX11_needs 11 = .ok (.ireturn, 1) := by decide +kernel
theorem dX11_needs_12 : decode cX11_needs 12 = .ok (.aload_n 0, 1) := by decide +kernel
theorem dX11_needs_13 : decode cX11_needs 13 = .ok (.getfield 19, 3) := by decide +kernel
theorem dX11_needs_16 : decode cX11_needs 16 = .ok (.aload_n 0, 1) := by decide +kernel
theorem dX11_needs_17 : decode cX11_needs 17 = .ok (.getfield 10, 3) := by decide +kernel
theorem dX11_needs_20 : decode cX11_needs 20 = .ok (.invokevirtual 146, 3) := by decide +kernel
theorem dX11_needs_23 : decode cX11_needs 23 = .ok (.aload_n 0, 1) := by decide +kernel
theorem dX11_needs_24 : decode cX11_needs 24 = .ok (.getfield 19, 3) := by decide +kernel
theorem dX11_needs_27 : decode cX11_needs 27 = .ok (.bipush 60, 2) := by decide +kernel
theorem dX11_needs_29 : decode cX11_needs 29 = .ok (.putfield 193, 3) := by decide +kernel
theorem dX11_needs_32 : decode cX11_needs 32 = .ok (.aload_n 0, 1) := by decide +kernel
theorem dX11_needs_33 : decode cX11_needs 33 = .ok (.getfield 19, 3) := by decide +kernel
theorem dX11_needs_36 : decode cX11_needs 36 = .ok (.aload_n 0, 1) := by decide +kernel
theorem dX11_needs_37 : decode cX11_needs 37 = .ok (.getfield 10, 3) := by decide +kernel
theorem dX11_needs_40 : decode cX11_needs 40 = .ok (.aload_n 0, 1) := by decide +kernel
theorem dX11_needs_41 : decode cX11_needs 41 = .ok (.getfield 67, 3) := by decide +kernel
theorem dX11_needs_44 : decode cX11_needs 44 = .ok (.iload_n 1, 1) := by decide +kernel
theorem dX11_needs_45 : decode cX11_needs 45 = .ok (.aaload, 1) := by decide +kernel
theorem dX11_needs_46 : decode cX11_needs 46 = .ok (.invokevirtual 201, 3) := by decide +kernel
theorem dX11_needs_49 : decode cX11_needs 49 = .ok (.aload_n 0, 1) := by decide +kernel
theorem dX11_needs_50 : decode cX11_needs 50 = .ok (.getfield 19, 3) := by decide +kernel
theorem dX11_needs_53 : decode cX11_needs 53 = .ok (.getfield 168, 3) := by decide +kernel
theorem dX11_needs_56 : decode cX11_needs 56 = .ok (.iconst 1, 1) := by decide +kernel
theorem dX11_needs_57 : decode cX11_needs 57 = .ok (.if_icmp .ne 13, 3) := by decide +kernel
theorem dX11_needs_60 : decode cX11_needs 60 = .ok (.aload_n 0, 1) := by decide +kernel
theorem dX11_needs_61 : decode cX11_needs 61 = .ok (.getfield 19, 3) := by decide +kernel
theorem dX11_needs_64 : decode cX11_needs 64 = .ok (.getfield 171, 3) := by decide +kernel
theorem dX11_needs_67 : decode cX11_needs 67 = .ok (.goto 5, 3) := by decide +kernel
theorem dX11_needs_70 : decode cX11_needs 70 = .ok (.bipush (-2), 2) := by decide +kernel
theorem dX11_needs_72 : decode cX11_needs 72 = .ok (.ireturn, 1) := by decide +kernel
theorem dX11_spared_0 : decode cX11_spared 0 = .ok (.aload_n 0, 1) := by decide +kernel
theorem dX11_spared_1 : decode cX11_spared 1 = .ok (.iload_n 1, 1) := by decide +kernel
theorem dX11_spared_2 : decode cX11_spared 2 = .ok (.invokevirtual 161, 3) := by decide +kernel
theorem dX11_spared_5 : decode cX11_spared 5 = .ok (.istore_n 2, 1) := by decide +kernel
theorem dX11_spared_6 : decode cX11_spared 6 = .ok (.iload_n 2, 1) := by decide +kernel
theorem dX11_spared_7 : decode cX11_spared 7 = .ok (.ifCond .eq 5, 3) := by decide +kernel
theorem dX11_spared_10 : decode cX11_spared 10 = .ok (.iload_n 2, 1) := by decide +kernel
theorem dX11_spared_11 : decode cX11_spared 11 = .ok (.ireturn, 1) := by decide +kernel
theorem dX11_spared_12 : decode cX11_spared 12 = .ok (.aload_n 0, 1) := by decide +kernel
theorem dX11_spared_13 : decode cX11_spared 13 = .ok (.iload_n 1, 1) := by decide +kernel
theorem dX11_spared_14 : decode cX11_spared 14 = .ok (.invokevirtual 164, 3) := by decide +kernel
theorem dX11_spared_17 : decode cX11_spared 17 = .ok (.aload_n 0, 1) := by decide +kernel
theorem dX11_spared_18 : decode cX11_spared 18 = .ok (.getfield 19, 3) := by decide +kernel
theorem dX11_spared_21 : decode cX11_spared 21 = .ok (.getfield 168, 3) := by decide +kernel
theorem dX11_spared_24 : decode cX11_spared 24 = .ok (.iconst 2, 1) := by decide +kernel
theorem dX11_spared_25 : decode cX11_spared 25 = .ok (.if_icmp .eq 5, 3) := by decide +kernel
theorem dX11_spared_28 : decode cX11_spared 28 = .ok (.iconst 0, 1) := by decide +kernel
theorem dX11_spared_29 : decode cX11_spared 29 = .ok (.ireturn, 1) := by decide +kernel
theorem dX11_spared_30 : decode cX11_spared 30 = .ok (.iconst 0, 1) := by decide +kernel
theorem dX11_spared_31 : decode cX11_spared 31 = .ok (.istore_n 3, 1) := by decide +kernel
theorem dX11_spared_32 : decode cX11_spared 32 = .ok (.iconst 0, 1) := by decide +kernel
theorem dX11_spared_33 : decode cX11_spared 33 = .ok (.istore 4, 2) := by decide +kernel
theorem dX11_spared_35 : decode cX11_spared 35 = .ok (.iload 4, 2) := by decide +kernel
theorem dX11_spared_37 : decode cX11_spared 37 = .ok (.aload_n 0, 1) := by decide +kernel
theorem dX11_spared_38 : decode cX11_spared 38 = .ok (.getfield 10, 3) := by decide +kernel
theorem dX11_spared_41 : decode cX11_spared 41 = .ok (.getfield 190, 3) := by decide +kernel
theorem dX11_spared_44 : decode cX11_spared 44 = .ok (.if_icmp .ge 89, 3) := by decide +kernel
theorem dX11_spared_47 : decode cX11_spared 47 = .ok (.aload_n 0, 1) := by decide +kernel
theorem dX11_spared_48 : decode cX11_spared 48 = .ok (.getfield 10, 3) := by decide +kernel
theorem dX11_spared_51 : decode cX11_spared 51 = .ok (.iload 4, 2) := by decide +kernel
theorem dX11_spared_53 : decode cX11_spared 53 = .ok (.invokevirtual 143, 3) := by decide +kernel
theorem dX11_spared_56 : decode cX11_spared 56 = .ok (.ifCond .eq 71, 3) := by decide +kernel
theorem dX11_spared_59 : decode cX11_spared 59 = .ok (.aload_n 0, 1) := by decide +kernel
theorem dX11_spared_60 : decode cX11_spared 60 = .ok (.getfield 19, 3) := by decide +kernel
theorem dX11_spared_63 : decode cX11_spared 63 = .ok (.aload_n 0, 1) := by decide +kernel
theorem dX11_spared_64 : decode cX11_spared 64 = .ok (.getfield 10, 3) := by decide +kernel
theorem dX11_spared_67 : decode cX11_spared 67 = .ok (.invokevirtual 146, 3) := by decide +kernel
theorem dX11_spared_70 : decode cX11_spared 70 = .ok (.aload_n 0, 1) := by decide +kernel
theorem dX11_spared_71 : decode cX11_spared 71 = .ok (.getfield 19, 3) := by decide +kernel
theorem dX11_spared_74 : decode cX11_spared 74 = .ok (.dup, 1) := by decide +kernel
theorem dX11_spared_75 : decode cX11_spared 75 = .ok (.getfield 223, 3) := by decide +kernel
theorem dX11_spared_78 : decode cX11_spared 78 = .ok (.iconst 1, 1) := by decide +kernel
theorem dX11_spared_79 : decode cX11_spared 79 = .ok (.iload 4, 2) := by decide +kernel
theorem dX11_spared_81 : decode cX11_spared 81 = .ok (.ishl, 1) := by decide +kernel
theorem dX11_spared_82 : decode cX11_spared 82 = .ok (.iconst (-1), 1) := by decide +kernel
theorem dX11_spared_83 : decode cX11_spared 83 = .ok (.ixor, 1) := by decide +kernel
theorem dX11_spared_84 : decode cX11_spared 84 = .ok (.iand, 1) := by decide +kernel
theorem dX11_spared_85 : decode cX11_spared 85 = .ok (.putfield 223, 3) := by decide +kernel
theorem dX11_spared_88 : decode cX11_spared 88 = .ok (.aload_n 0, 1) := by decide +kernel
theorem dX11_spared_89 : decode cX11_spared 89 = .ok (.getfield 19, 3) := by decide +kernel
theorem dX11_spared_92 : decode cX11_spared 92 = .ok (.aload_n 0, 1) := by decide +kernel
theorem dX11_spared_93 : decode cX11_spared 93 = .ok (.getfield 10, 3) := by decide +kernel
theorem dX11_spared_96 : decode cX11_spared 96 = .ok (.aload_n 0, 1) := by decide +kernel
theorem dX11_spared_97 : decode cX11_spared 97 = .ok (.getfield 67, 3) := by decide +kernel
theorem dX11_spared_100 : decode cX11_spared 100 = .ok (.iload_n 1, 1) := by decide +kernel
theorem dX11_spared_101 : decode cX11_spared 101 = .ok (.aaload, 1) := by decide +kernel
theorem dX11_spared_102 : decode cX11_spared 102 = .ok (.invokevirtual 201, 3) := by decide +kernel
theorem dX11_spared_105 : decode cX11_spared 105 = .ok (.iload_n 3, 1) := by decide +kernel
theorem dX11_spared_106 : decode cX11_spared 106 = .ok (.aload_n 0, 1) := by decide +kernel
theorem dX11_spared_107 : decode cX11_spared 107 = .ok (.getfield 19, 3) := by decide +kernel
theorem dX11_spared_110 : decode cX11_spared 110 = .ok (.getfield 168, 3) := by decide +kernel
theorem dX11_spared_113 : decode cX11_spared 113 = .ok (.iconst 2, 1) := by decide +kernel
theorem dX11_spared_114 : decode cX11_spared 114 = .ok (.if_icmp .ne 7, 3) := by decide +kernel
theorem dX11_spared_117 : decode cX11_spared 117 = .ok (.iconst 0, 1) := by decide +kernel
theorem dX11_spared_118 : decode cX11_spared 118 = .ok (.goto 7, 3) := by decide +kernel
theorem dX11_spared_121 : decode cX11_spared 121 = .ok (.iconst 1, 1) := by decide +kernel
theorem dX11_spared_122 : decode cX11_spared 122 = .ok (.iload 4, 2) := by decide +kernel
theorem dX11_spared_124 : decode cX11_spared 124 = .ok (.ishl, 1) := by decide +kernel
theorem dX11_spared_125 : decode cX11_spared 125 = .ok (.ior, 1) := by decide +kernel
theorem dX11_spared_126 : decode cX11_spared 126 = .ok (.istore_n 3, 1) := by decide +kernel
theorem dX11_spared_127 : decode cX11_spared 127 = .ok (.iinc 4 1, 3) := by decide +kernel
theorem dX11_spared_130 : decode cX11_spared 130 = .ok (.goto (-95), 3) := by decide +kernel
theorem dX11_spared_133 : decode cX11_spared 133 = .ok (.iload_n 3, 1) := by decide +kernel
theorem dX11_spared_134 : decode cX11_spared 134 = .ok (.ireturn, 1) := by decide +kernel
theorem dX11_stand_0 : decode cX11_stand 0 = .ok (.aload_n 0, 1) := by decide +kernel
theorem dX11_stand_1 : decode cX11_stand 1 = .ok (.iload_n 1, 1) := by decide +kernel
theorem dX11_stand_2 : decode cX11_stand 2 = .ok (.invokevirtual 161, 3) := by decide +kernel
theorem dX11_stand_5 : decode cX11_stand 5 = .ok (.ifCond .ne 23, 3) := by decide +kernel
theorem dX11_stand_8 : decode cX11_stand 8 = .ok (.aload_n 0, 1) := by decide +kernel
theorem dX11_stand_9 : decode cX11_stand 9 = .ok (.getfield 10, 3) := by decide +kernel
theorem dX11_stand_12 : decode cX11_stand 12 = .ok (.iload_n 2, 1) := by decide +kernel
theorem dX11_stand_13 : decode cX11_stand 13 = .ok (.invokevirtual 143, 3) := by decide +kernel
theorem dX11_stand_16 : decode cX11_stand 16 = .ok (.ifCond .eq 12, 3) := by decide +kernel
theorem dX11_stand_19 : decode cX11_stand 19 = .ok (.iload_n 3, 1) := by decide +kernel
theorem dX11_stand_20 : decode cX11_stand 20 = .ok (.ifCond .lt 8, 3) := by decide +kernel
theorem dX11_stand_23 : decode cX11_stand 23 = .ok (.iload_n 3, 1) := by decide +kernel
theorem dX11_stand_24 : decode cX11_stand 24 = .ok (.iconst 1, 1) := by decide +kernel
theorem dX11_stand_25 : decode cX11_stand 25 = .ok (.if_icmp .le 6, 3) := by decide +kernel
theorem dX11_stand_28 : decode cX11_stand 28 = .ok (.ldc 208, 2) := by decide +kernel
theorem dX11_stand_30 : decode cX11_stand 30 = .ok (.ireturn, 1) := by decide +kernel
theorem dX11_stand_31 : decode cX11_stand 31 = .ok (.iconst 0, 1) := by decide +kernel
theorem dX11_stand_32 : decode cX11_stand 32 = .ok (.istore 4, 2) := by decide +kernel
theorem dX11_stand_34 : decode cX11_stand 34 = .ok (.sipush 1000, 3) := by decide +kernel
theorem dX11_stand_37 : decode cX11_stand 37 = .ok (.istore 5, 2) := by decide +kernel
theorem dX11_stand_39 : decode cX11_stand 39 = .ok (.aload_n 0, 1) := by decide +kernel
theorem dX11_stand_40 : decode cX11_stand 40 = .ok (.getfield 10, 3) := by decide +kernel
theorem dX11_stand_43 : decode cX11_stand 43 = .ok (.invokevirtual 226, 3) := by decide +kernel
theorem dX11_stand_46 : decode cX11_stand 46 = .ok (.ineg, 1) := by decide +kernel
theorem dX11_stand_47 : decode cX11_stand 47 = .ok (.istore 6, 2) := by decide +kernel
theorem dX11_stand_49 : decode cX11_stand 49 = .ok (.iconst 1, 1) := by decide +kernel
theorem dX11_stand_50 : decode cX11_stand 50 = .ok (.istore 7, 2) := by decide +kernel
theorem dX11_stand_52 : decode cX11_stand 52 = .ok (.iload 7, 2) := by decide +kernel
theorem dX11_stand_54 : decode cX11_stand 54 = .ok (.bipush 8, 2) := by decide +kernel
theorem dX11_stand_56 : decode cX11_stand 56 = .ok (.if_icmp .gt 124, 3) := by decide +kernel
theorem dX11_stand_59 : decode cX11_stand 59 = .ok (.iconst 0, 1) := by decide +kernel
theorem dX11_stand_60 : decode cX11_stand 60 = .ok (.istore 8, 2) := by decide +kernel
theorem dX11_stand_62 : decode cX11_stand 62 = .ok (.iload 8, 2) := by decide +kernel
theorem dX11_stand_64 : decode cX11_stand 64 = .ok (.bipush 8, 2) := by decide +kernel
theorem dX11_stand_66 : decode cX11_stand 66 = .ok (.if_icmp .gt 108, 3) := by decide +kernel
theorem dX11_stand_69 : decode cX11_stand 69 = .ok (.iload 5, 2) := by decide +kernel
theorem dX11_stand_71 : decode cX11_stand 71 = .ok (.iload 6, 2) := by decide +kernel
theorem dX11_stand_73 : decode cX11_stand 73 = .ok (.if_icmp .le 101, 3) := by decide +kernel
theorem dX11_stand_76 : decode cX11_stand 76 = .ok (.aload_n 0, 1) := by decide +kernel
theorem dX11_stand_77 : decode cX11_stand 77 = .ok (.getfield 19, 3) := by decide +kernel
theorem dX11_stand_80 : decode cX11_stand 80 = .ok (.aload_n 0, 1) := by decide +kernel
theorem dX11_stand_81 : decode cX11_stand 81 = .ok (.getfield 10, 3) := by decide +kernel
theorem dX11_stand_84 : decode cX11_stand 84 = .ok (.invokevirtual 146, 3) := by decide +kernel
theorem dX11_stand_87 : decode cX11_stand 87 = .ok (.aload_n 0, 1) := by decide +kernel
theorem dX11_stand_88 : decode cX11_stand 88 = .ok (.getfield 19, 3) := by decide +kernel
theorem dX11_stand_91 : decode cX11_stand 91 = .ok (.getfield 229, 3) := by decide +kernel
theorem dX11_stand_94 : decode cX11_stand 94 = .ok (.iload_n 2, 1) := by decide +kernel
theorem dX11_stand_95 : decode cX11_stand 95 = .ok (.iload 8, 2) := by decide +kernel
theorem dX11_stand_97 : decode cX11_stand 97 = .ok (.iastore, 1) := by decide +kernel
theorem dX11_stand_98 : decode cX11_stand 98 = .ok (.aload_n 0, 1) := by decide +kernel
theorem dX11_stand_99 : decode cX11_stand 99 = .ok (.getfield 19, 3) := by decide +kernel
theorem dX11_stand_102 : decode cX11_stand 102 = .ok (.getfield 232, 3) := by decide +kernel
theorem dX11_stand_105 : decode cX11_stand 105 = .ok (.iload_n 2, 1) := by decide +kernel
theorem dX11_stand_106 : decode cX11_stand 106 = .ok (.iload 7, 2) := by decide +kernel
theorem dX11_stand_108 : decode cX11_stand 108 = .ok (.iastore, 1) := by decide +kernel
theorem dX11_stand_109 : decode cX11_stand 109 = .ok (.aload_n 0, 1) := by decide +kernel
theorem dX11_stand_110 : decode cX11_stand 110 = .ok (.getfield 19, 3) := by decide +kernel
theorem dX11_stand_113 : decode cX11_stand 113 = .ok (.aload_n 0, 1) := by decide +kernel
theorem dX11_stand_114 : decode cX11_stand 114 = .ok (.getfield 10, 3) := by decide +kernel
theorem dX11_stand_117 : decode cX11_stand 117 = .ok (.aload_n 0, 1) := by decide +kernel
theorem dX11_stand_118 : decode cX11_stand 118 = .ok (.getfield 67, 3) := by decide +kernel
theorem dX11_stand_121 : decode cX11_stand 121 = .ok (.iload_n 1, 1) := by decide +kernel
theorem dX11_stand_122 : decode cX11_stand 122 = .ok (.aaload, 1) := by decide +kernel
theorem dX11_stand_123 : decode cX11_stand 123 = .ok (.invokevirtual 201, 3) := by decide +kernel
theorem dX11_stand_126 : decode cX11_stand 126 = .ok (.aload_n 0, 1) := by decide +kernel
theorem dX11_stand_127 : decode cX11_stand 127 = .ok (.getfield 19, 3) := by decide +kernel
theorem dX11_stand_130 : decode cX11_stand 130 = .ok (.invokevirtual 174, 3) := by decide +kernel
theorem dX11_stand_133 : decode cX11_stand 133 = .ok (.aload_n 0, 1) := by decide +kernel
theorem dX11_stand_134 : decode cX11_stand 134 = .ok (.getfield 19, 3) := by decide +kernel
theorem dX11_stand_137 : decode cX11_stand 137 = .ok (.aload_n 0, 1) := by decide +kernel
theorem dX11_stand_138 : decode cX11_stand 138 = .ok (.getfield 10, 3) := by decide +kernel
theorem dX11_stand_141 : decode cX11_stand 141 = .ok (.invokevirtual 177, 3) := by decide +kernel
theorem dX11_stand_144 : decode cX11_stand 144 = .ok (.isub, 1) := by decide +kernel
theorem dX11_stand_145 : decode cX11_stand 145 = .ok (.istore 9, 2) := by decide +kernel
theorem dX11_stand_147 : decode cX11_stand 147 = .ok (.iload 9, 2) := by decide +kernel
theorem dX11_stand_149 : decode cX11_stand 149 = .ok (.iload 5, 2) := by decide +kernel
theorem dX11_stand_151 : decode cX11_stand 151 = .ok (.if_icmp .ge 17, 3) := by decide +kernel
theorem dX11_stand_154 : decode cX11_stand 154 = .ok (.iload 9, 2) := by decide +kernel
theorem dX11_stand_156 : decode cX11_stand 156 = .ok (.istore 5, 2) := by decide +kernel
theorem dX11_stand_158 : decode cX11_stand 158 = .ok (.bipush 10, 2) := by decide +kernel
theorem dX11_stand_160 : decode cX11_stand 160 = .ok (.iload 7, 2) := by decide +kernel
theorem dX11_stand_162 : decode cX11_stand 162 = .ok (.imul, 1) := by decide +kernel
theorem dX11_stand_163 : decode cX11_stand 163 = .ok (.iload 8, 2) := by decide +kernel
theorem dX11_stand_165 : decode cX11_stand 165 = .ok (.iadd, 1) := by decide +kernel
theorem dX11_stand_166 : decode cX11_stand 166 = .ok (.istore 4, 2) := by decide +kernel
theorem dX11_stand_168 : decode cX11_stand 168 = .ok (.iinc 8 1, 3) := by decide +kernel
theorem dX11_stand_171 : decode cX11_stand 171 = .ok (.goto (-109), 3) := by decide +kernel
theorem dX11_stand_174 : decode cX11_stand 174 = .ok (.iinc 7 1, 3) := by decide +kernel
theorem dX11_stand_177 : decode cX11_stand 177 = .ok (.goto (-125), 3) := by decide +kernel
theorem dX11_stand_180 : decode cX11_stand 180 = .ok (.iload_n 3, 1) := by decide +kernel
theorem dX11_stand_181 : decode cX11_stand 181 = .ok (.ifCond .ne 8, 3) := by decide +kernel
theorem dX11_stand_184 : decode cX11_stand 184 = .ok (.iload 4, 2) := by decide +kernel
theorem dX11_stand_186 : decode cX11_stand 186 = .ok (.goto 5, 3) := by decide +kernel
theorem dX11_stand_189 : decode cX11_stand 189 = .ok (.iload 5, 2) := by decide +kernel
theorem dX11_stand_191 : decode cX11_stand 191 = .ok (.ireturn, 1) := by decide +kernel
theorem dX11_mightHe_0 : decode cX11_mightHe 0 = .ok (.aload_n 0, 1) := by decide +kernel
theorem dX11_mightHe_1 : decode cX11_mightHe 1 = .ok (.iload_n 1, 1) := by decide +kernel
theorem dX11_mightHe_2 : decode cX11_mightHe 2 = .ok (.invokevirtual 161, 3) := by decide +kernel
theorem dX11_mightHe_5 : decode cX11_mightHe 5 = .ok (.istore_n 2, 1) := by decide +kernel
theorem dX11_mightHe_6 : decode cX11_mightHe 6 = .ok (.iload_n 2, 1) := by decide +kernel
theorem dX11_mightHe_7 : decode cX11_mightHe 7 = .ok (.ifCond .eq 5, 3) := by decide +kernel
theorem dX11_mightHe_10 : decode cX11_mightHe 10 = .ok (.iload_n 2, 1) := by decide +kernel
theorem dX11_mightHe_11 : decode cX11_mightHe 11 = .ok (.ireturn, 1) := by decide +kernel
theorem dX11_mightHe_12 : decode cX11_mightHe 12 = .ok (.aload_n 0, 1) := by decide +kernel
theorem dX11_mightHe_13 : decode cX11_mightHe 13 = .ok (.getfield 19, 3) := by decide +kernel
theorem dX11_mightHe_16 : decode cX11_mightHe 16 = .ok (.aload_n 0, 1) := by decide +kernel
theorem dX11_mightHe_17 : decode cX11_mightHe 17 = .ok (.getfield 10, 3) := by decide +kernel
theorem dX11_mightHe_20 : decode cX11_mightHe 20 = .ok (.invokevirtual 146, 3) := by decide +kernel
theorem dX11_mightHe_23 : decode cX11_mightHe 23 = .ok (.aload_n 0, 1) := by decide +kernel
theorem dX11_mightHe_24 : decode cX11_mightHe 24 = .ok (.getfield 19, 3) := by decide +kernel
theorem dX11_mightHe_27 : decode cX11_mightHe 27 = .ok (.sipush 1000, 3) := by decide +kernel
theorem dX11_mightHe_30 : decode cX11_mightHe 30 = .ok (.putfield 235, 3) := by decide +kernel
theorem dX11_mightHe_33 : decode cX11_mightHe 33 = .ok (.aload_n 0, 1) := by decide +kernel
theorem dX11_mightHe_34 : decode cX11_mightHe 34 = .ok (.getfield 19, 3) := by decide +kernel
theorem dX11_mightHe_37 : decode cX11_mightHe 37 = .ok (.aload_n 0, 1) := by decide +kernel
theorem dX11_mightHe_38 : decode cX11_mightHe 38 = .ok (.getfield 10, 3) := by decide +kernel
theorem dX11_mightHe_41 : decode cX11_mightHe 41 = .ok (.aload_n 0, 1) := by decide +kernel
theorem dX11_mightHe_42 : decode cX11_mightHe 42 = .ok (.getfield 67, 3) := by decide +kernel
theorem dX11_mightHe_45 : decode cX11_mightHe 45 = .ok (.iload_n 1, 1) := by decide +kernel
theorem dX11_mightHe_46 : decode cX11_mightHe 46 = .ok (.aaload, 1) := by decide +kernel
theorem dX11_mightHe_47 : decode cX11_mightHe 47 = .ok (.invokevirtual 201, 3) := by decide +kernel
theorem dX11_mightHe_50 : decode cX11_mightHe 50 = .ok (.aload_n 0, 1) := by decide +kernel
theorem dX11_mightHe_51 : decode cX11_mightHe 51 = .ok (.getfield 19, 3) := by decide +kernel
theorem dX11_mightHe_54 : decode cX11_mightHe 54 = .ok (.getfield 238, 3) := by decide +kernel
theorem dX11_mightHe_57 : decode cX11_mightHe 57 = .ok (.bipush 40, 2) := by decide +kernel
theorem dX11_mightHe_59 : decode cX11_mightHe 59 = .ok (.if_icmp .le 8, 3) := by decide +kernel
theorem dX11_mightHe_62 : decode cX11_mightHe 62 = .ok (.bipush (-2), 2) := by decide +kernel
theorem dX11_mightHe_64 : decode cX11_mightHe 64 = .ok (.goto 10, 3) := by decide +kernel
theorem dX11_mightHe_67 : decode cX11_mightHe 67 = .ok (.aload_n 0, 1) := by decide +kernel
theorem dX11_mightHe_68 : decode cX11_mightHe 68 = .ok (.getfield 19, 3) := by decide +kernel
theorem dX11_mightHe_71 : decode cX11_mightHe 71 = .ok (.getfield 238, 3) := by decide +kernel
theorem dX11_mightHe_74 : decode cX11_mightHe 74 = .ok (.ireturn, 1) := by decide +kernel
theorem dX11_line_0 : decode cX11_line 0 = .ok (.iload_n 1, 1) := by decide +kernel
theorem dX11_line_1 : decode cX11_line 1 = .ok (.tableswitch 51 0 2 #[27, 35, 43], 27) := by decide +kernel
theorem dX11_line_28 : decode cX11_line 28 = .ok (.aload_n 0, 1) := by decide +kernel
theorem dX11_line_29 : decode cX11_line 29 = .ok (.getfield 10, 3) := by decide +kernel
theorem dX11_line_32 : decode cX11_line 32 = .ok (.invokevirtual 241, 3) := by decide +kernel
theorem dX11_line_35 : decode cX11_line 35 = .ok (.ireturn, 1) := by decide +kernel
theorem dX11_line_36 : decode cX11_line 36 = .ok (.aload_n 0, 1) := by decide +kernel
theorem dX11_line_37 : decode cX11_line 37 = .ok (.getfield 10, 3) := by decide +kernel
theorem dX11_line_40 : decode cX11_line 40 = .ok (.invokevirtual 244, 3) := by decide +kernel
theorem dX11_line_43 : decode cX11_line 43 = .ok (.ireturn, 1) := by decide +kernel
theorem dX11_line_44 : decode cX11_line 44 = .ok (.aload_n 0, 1) := by decide +kernel
theorem dX11_line_45 : decode cX11_line 45 = .ok (.getfield 10, 3) := by decide +kernel
theorem dX11_line_48 : decode cX11_line 48 = .ok (.invokevirtual 247, 3) := by decide +kernel
theorem dX11_line_51 : decode cX11_line 51 = .ok (.ireturn, 1) := by decide +kernel
theorem dX11_line_52 : decode cX11_line 52 = .ok (.iconst (-1), 1) := by decide +kernel
theorem dX11_line_53 : decode cX11_line 53 = .ok (.ireturn, 1) := by decide +kernel
theorem dX11_left_0 : decode cX11_left 0 = .ok (.iload_n 1, 1) := by decide +kernel
theorem dX11_left_1 : decode cX11_left 1 = .ok (.iload_n 2, 1) := by decide +kernel
theorem dX11_left_2 : decode cX11_left 2 = .ok (.iload_n 3, 1) := by decide +kernel
theorem dX11_left_3 : decode cX11_left 3 = .ok (.invokestatic 250, 3) := by decide +kernel
theorem dX11_left_6 : decode cX11_left 6 = .ok (.ifCond .eq 5, 3) := by decide +kernel
theorem dX11_left_9 : decode cX11_left 9 = .ok (.iconst (-1), 1) := by decide +kernel
theorem dX11_left_10 : decode cX11_left 10 = .ok (.ireturn, 1) := by decide +kernel
theorem dX11_left_11 : decode cX11_left 11 = .ok (.aload_n 0, 1) := by decide +kernel
theorem dX11_left_12 : decode cX11_left 12 = .ok (.getfield 33, 3) := by decide +kernel
theorem dX11_left_15 : decode cX11_left 15 = .ok (.aload_n 0, 1) := by decide +kernel
theorem dX11_left_16 : decode cX11_left 16 = .ok (.getfield 10, 3) := by decide +kernel
theorem dX11_left_19 : decode cX11_left 19 = .ok (.iload_n 1, 1) := by decide +kernel
theorem dX11_left_20 : decode cX11_left 20 = .ok (.iload_n 2, 1) := by decide +kernel
theorem dX11_left_21 : decode cX11_left 21 = .ok (.iconst 0, 1) := by decide +kernel
theorem dX11_left_22 : decode cX11_left 22 = .ok (.iconst 0, 1) := by decide +kernel
theorem dX11_left_23 : decode cX11_left 23 = .ok (.invokevirtual 254, 3) := by decide +kernel
theorem dX11_left_26 : decode cX11_left 26 = .ok (.iload_n 3, 1) := by decide +kernel
theorem dX11_left_27 : decode cX11_left 27 = .ok (.ifCond .ne 13, 3) := by decide +kernel
theorem dX11_left_30 : decode cX11_left 30 = .ok (.aload_n 0, 1) := by decide +kernel
theorem dX11_left_31 : decode cX11_left 31 = .ok (.getfield 33, 3) := by decide +kernel
theorem dX11_left_34 : decode cX11_left 34 = .ok (.getfield 258, 3) := by decide +kernel
theorem dX11_left_37 : decode cX11_left 37 = .ok (.goto 10, 3) := by decide +kernel
theorem dX11_left_40 : decode cX11_left 40 = .ok (.aload_n 0, 1) := by decide +kernel
theorem dX11_left_41 : decode cX11_left 41 = .ok (.getfield 33, 3) := by decide +kernel
theorem dX11_left_44 : decode cX11_left 44 = .ok (.getfield 261, 3) := by decide +kernel
theorem dX11_left_47 : decode cX11_left 47 = .ok (.ireturn, 1) := by decide +kernel
theorem dX11_third_0 : decode cX11_third 0 = .ok (.iload_n 1, 1) := by decide +kernel
theorem dX11_third_1 : decode cX11_third 1 = .ok (.iload_n 2, 1) := by decide +kernel
theorem dX11_third_2 : decode cX11_third 2 = .ok (.iload 4, 2) := by decide +kernel
theorem dX11_third_4 : decode cX11_third 4 = .ok (.invokestatic 250, 3) := by decide +kernel
theorem dX11_third_7 : decode cX11_third 7 = .ok (.ifCond .ne 12, 3) := by decide +kernel
theorem dX11_third_10 : decode cX11_third 10 = .ok (.iload_n 3, 1) := by decide +kernel
theorem dX11_third_11 : decode cX11_third 11 = .ok (.ifCond .lt 8, 3) := by decide +kernel
theorem dX11_third_14 : decode cX11_third 14 = .ok (.iload_n 3, 1) := by decide +kernel
theorem dX11_third_15 : decode cX11_third 15 = .ok (.iconst 2, 1) := by decide +kernel
theorem dX11_third_16 : decode cX11_third 16 = .ok (.if_icmp .le 5, 3) := by decide +kernel
theorem dX11_third_19 : decode cX11_third 19 = .ok (.iconst (-1), 1) := by decide +kernel
theorem dX11_third_20 : decode cX11_third 20 = .ok (.ireturn, 1) := by decide +kernel
theorem dX11_third_21 : decode cX11_third 21 = .ok (.aload_n 0, 1) := by decide +kernel
theorem dX11_third_22 : decode cX11_third 22 = .ok (.getfield 33, 3) := by decide +kernel
theorem dX11_third_25 : decode cX11_third 25 = .ok (.aload_n 0, 1) := by decide +kernel
theorem dX11_third_26 : decode cX11_third 26 = .ok (.getfield 10, 3) := by decide +kernel
theorem dX11_third_29 : decode cX11_third 29 = .ok (.iload_n 1, 1) := by decide +kernel
theorem dX11_third_30 : decode cX11_third 30 = .ok (.iload_n 2, 1) := by decide +kernel
theorem dX11_third_31 : decode cX11_third 31 = .ok (.iload_n 3, 1) := by decide +kernel
theorem dX11_third_32 : decode cX11_third 32 = .ok (.iconst 1, 1) := by decide +kernel
theorem dX11_third_33 : decode cX11_third 33 = .ok (.invokevirtual 254, 3) := by decide +kernel
theorem dX11_third_36 : decode cX11_third 36 = .ok (.iload 4, 2) := by decide +kernel
theorem dX11_third_38 : decode cX11_third 38 = .ok (.ifCond .ne 13, 3) := by decide +kernel
theorem dX11_third_41 : decode cX11_third 41 = .ok (.aload_n 0, 1) := by decide +kernel
theorem dX11_third_42 : decode cX11_third 42 = .ok (.getfield 33, 3) := by decide +kernel
theorem dX11_third_45 : decode cX11_third 45 = .ok (.getfield 258, 3) := by decide +kernel
theorem dX11_third_48 : decode cX11_third 48 = .ok (.goto 10, 3) := by decide +kernel
theorem dX11_third_51 : decode cX11_third 51 = .ok (.aload_n 0, 1) := by decide +kernel
theorem dX11_third_52 : decode cX11_third 52 = .ok (.getfield 33, 3) := by decide +kernel
theorem dX11_third_55 : decode cX11_third 55 = .ok (.getfield 261, 3) := by decide +kernel
theorem dX11_third_58 : decode cX11_third 58 = .ok (.ireturn, 1) := by decide +kernel
theorem dX11_judge_0 : decode cX11_judge 0 = .ok (.iload_n 2, 1) := by decide +kernel
theorem dX11_judge_1 : decode cX11_judge 1 = .ok (.invokestatic 263, 3) := by decide +kernel
theorem dX11_judge_4 : decode cX11_judge 4 = .ok (.ifCond .eq 5, 3) := by decide +kernel
theorem dX11_judge_7 : decode cX11_judge 7 = .ok (.iconst (-1), 1) := by decide +kernel
theorem dX11_judge_8 : decode cX11_judge 8 = .ok (.ireturn, 1) := by decide +kernel
theorem dX11_judge_9 : decode cX11_judge 9 = .ok (.aload_n 0, 1) := by decide +kernel
theorem dX11_judge_10 : decode cX11_judge 10 = .ok (.iload_n 1, 1) := by decide +kernel
theorem dX11_judge_11 : decode cX11_judge 11 = .ok (.invokevirtual 161, 3) := by decide +kernel
theorem dX11_judge_14 : decode cX11_judge 14 = .ok (.istore_n 3, 1) := by decide +kernel
theorem dX11_judge_15 : decode cX11_judge 15 = .ok (.iload_n 3, 1) := by decide +kernel
theorem dX11_judge_16 : decode cX11_judge 16 = .ok (.ifCond .eq 7, 3) := by decide +kernel
theorem dX11_judge_19 : decode cX11_judge 19 = .ok (.iload_n 3, 1) := by decide +kernel
theorem dX11_judge_20 : decode cX11_judge 20 = .ok (.goto 17, 3) := by decide +kernel
theorem dX11_judge_23 : decode cX11_judge 23 = .ok (.aload_n 0, 1) := by decide +kernel
theorem dX11_judge_24 : decode cX11_judge 24 = .ok (.getfield 40, 3) := by decide +kernel
theorem dX11_judge_27 : decode cX11_judge 27 = .ok (.aload_n 0, 1) := by decide +kernel
theorem dX11_judge_28 : decode cX11_judge 28 = .ok (.getfield 67, 3) := by decide +kernel
theorem dX11_judge_31 : decode cX11_judge 31 = .ok (.iload_n 1, 1) := by decide +kernel
theorem dX11_judge_32 : decode cX11_judge 32 = .ok (.aaload, 1) := by decide +kernel
theorem dX11_judge_33 : decode cX11_judge 33 = .ok (.iload_n 2, 1) := by decide +kernel
theorem dX11_judge_34 : decode cX11_judge 34 = .ok (.invokevirtual 266, 3) := by decide +kernel
theorem dX11_judge_37 : decode cX11_judge 37 = .ok (.ireturn, 1) := by decide +kernel
theorem dX11_bench_0 : decode cX11_bench 0 = .ok (.iload_n 2, 1) := by decide +kernel
theorem dX11_bench_1 : decode cX11_bench 1 = .ok (.invokestatic 263, 3) := by decide +kernel
theorem dX11_bench_4 : decode cX11_bench 4 = .ok (.ifCond .ne 23, 3) := by decide +kernel
theorem dX11_bench_7 : decode cX11_bench 7 = .ok (.iload_n 3, 1) := by decide +kernel
theorem dX11_bench_8 : decode cX11_bench 8 = .ok (.ifCond .lt 19, 3) := by decide +kernel
theorem dX11_bench_11 : decode cX11_bench 11 = .ok (.iload_n 3, 1) := by decide +kernel
theorem dX11_bench_12 : decode cX11_bench 12 = .ok (.iconst 1, 1) := by decide +kernel
theorem dX11_bench_13 : decode cX11_bench 13 = .ok (.if_icmp .gt 14, 3) := by decide +kernel
theorem dX11_bench_16 : decode cX11_bench 16 = .ok (.iload 4, 2) := by decide +kernel
theorem dX11_bench_18 : decode cX11_bench 18 = .ok (.ifCond .lt 9, 3) := by decide +kernel
theorem dX11_bench_21 : decode cX11_bench 21 = .ok (.iload 4, 2) := by decide +kernel
theorem dX11_bench_23 : decode cX11_bench 23 = .ok (.iconst 2, 1) := by decide +kernel
theorem dX11_bench_24 : decode cX11_bench 24 = .ok (.if_icmp .le 5, 3) := by decide +kernel
theorem dX11_bench_27 : decode cX11_bench 27 = .ok (.iconst (-1), 1) := by decide +kernel
theorem dX11_bench_28 : decode cX11_bench 28 = .ok (.ireturn, 1) := by decide +kernel
theorem dX11_bench_29 : decode cX11_bench 29 = .ok (.aload_n 0, 1) := by decide +kernel
theorem dX11_bench_30 : decode cX11_bench 30 = .ok (.iload_n 1, 1) := by decide +kernel
theorem dX11_bench_31 : decode cX11_bench 31 = .ok (.invokevirtual 161, 3) := by decide +kernel
theorem dX11_bench_34 : decode cX11_bench 34 = .ok (.istore 5, 2) := by decide +kernel
theorem dX11_bench_36 : decode cX11_bench 36 = .ok (.iload 5, 2) := by decide +kernel
theorem dX11_bench_38 : decode cX11_bench 38 = .ok (.ifCond .eq 6, 3) := by decide +kernel
theorem dX11_bench_41 : decode cX11_bench 41 = .ok (.iload 5, 2) := by decide +kernel
theorem dX11_bench_43 : decode cX11_bench 43 = .ok (.ireturn, 1) := by decide +kernel
theorem dX11_bench_44 : decode cX11_bench 44 = .ok (.aload_n 0, 1) := by decide +kernel
theorem dX11_bench_45 : decode cX11_bench 45 = .ok (.getfield 40, 3) := by decide +kernel
theorem dX11_bench_48 : decode cX11_bench 48 = .ok (.aload_n 0, 1) := by decide +kernel
theorem dX11_bench_49 : decode cX11_bench 49 = .ok (.getfield 67, 3) := by decide +kernel
theorem dX11_bench_52 : decode cX11_bench 52 = .ok (.iload_n 1, 1) := by decide +kernel
theorem dX11_bench_53 : decode cX11_bench 53 = .ok (.aaload, 1) := by decide +kernel
theorem dX11_bench_54 : decode cX11_bench 54 = .ok (.iload_n 2, 1) := by decide +kernel
theorem dX11_bench_55 : decode cX11_bench 55 = .ok (.invokevirtual 266, 3) := by decide +kernel
theorem dX11_bench_58 : decode cX11_bench 58 = .ok (.pop, 1) := by decide +kernel
theorem dX11_bench_59 : decode cX11_bench 59 = .ok (.iload 4, 2) := by decide +kernel
theorem dX11_bench_61 : decode cX11_bench 61 = .ok (.lookupswitch 46 #[(0, 27), (1, 37)], 27) := by decide +kernel
theorem dX11_bench_88 : decode cX11_bench 88 = .ok (.aload_n 0, 1) := by decide +kernel
theorem dX11_bench_89 : decode cX11_bench 89 = .ok (.getfield 40, 3) := by decide +kernel
theorem dX11_bench_92 : decode cX11_bench 92 = .ok (.getfield 269, 3) := by decide +kernel
theorem dX11_bench_95 : decode cX11_bench 95 = .ok (.iload_n 3, 1) := by decide +kernel
theorem dX11_bench_96 : decode cX11_bench 96 = .ok (.iaload, 1) := by decide +kernel
theorem dX11_bench_97 : decode cX11_bench 97 = .ok (.ireturn, 1) := by decide +kernel
theorem dX11_bench_98 : decode cX11_bench 98 = .ok (.aload_n 0, 1) := by decide +kernel
theorem dX11_bench_99 : decode cX11_bench 99 = .ok (.getfield 40, 3) := by decide +kernel
theorem dX11_bench_102 : decode cX11_bench 102 = .ok (.iload_n 3, 1) := by decide +kernel
theorem dX11_bench_103 : decode cX11_bench 103 = .ok (.invokevirtual 271, 3) := by decide +kernel
theorem dX11_bench_106 : decode cX11_bench 106 = .ok (.ireturn, 1) := by decide +kernel
theorem dX11_bench_107 : decode cX11_bench 107 = .ok (.aload_n 0, 1) := by decide +kernel
theorem dX11_bench_108 : decode cX11_bench 108 = .ok (.getfield 40, 3) := by decide +kernel
theorem dX11_bench_111 : decode cX11_bench 111 = .ok (.getfield 274, 3) := by decide +kernel
theorem dX11_bench_114 : decode cX11_bench 114 = .ok (.iload_n 3, 1) := by decide +kernel
theorem dX11_bench_115 : decode cX11_bench 115 = .ok (.iaload, 1) := by decide +kernel
theorem dX11_bench_116 : decode cX11_bench 116 = .ok (.ireturn, 1) := by decide +kernel
theorem dX11_drawn_0 : decode cX11_drawn 0 = .ok (.iload_n 2, 1) := by decide +kernel
theorem dX11_drawn_1 : decode cX11_drawn 1 = .ok (.iconst 1, 1) := by decide +kernel
theorem dX11_drawn_2 : decode cX11_drawn 2 = .ok (.if_icmp .lt 18, 3) := by decide +kernel
theorem dX11_drawn_5 : decode cX11_drawn 5 = .ok (.iload_n 2, 1) := by decide +kernel
theorem dX11_drawn_6 : decode cX11_drawn 6 = .ok (.bipush 50, 2) := by decide +kernel
theorem dX11_drawn_8 : decode cX11_drawn 8 = .ok (.if_icmp .gt 12, 3) := by decide +kernel
theorem dX11_drawn_11 : decode cX11_drawn 11 = .ok (.iload_n 3, 1) := by decide +kernel
theorem dX11_drawn_12 : decode cX11_drawn 12 = .ok (.ifCond .lt 8, 3) := by decide +kernel
theorem dX11_drawn_15 : decode cX11_drawn 15 = .ok (.iload_n 3, 1) := by decide +kernel
theorem dX11_drawn_16 : decode cX11_drawn 16 = .ok (.iconst 1, 1) := by decide +kernel
theorem dX11_drawn_17 : decode cX11_drawn 17 = .ok (.if_icmp .le 5, 3) := by decide +kernel
theorem dX11_drawn_20 : decode cX11_drawn 20 = .ok (.iconst (-1), 1) := by decide +kernel
theorem dX11_drawn_21 : decode cX11_drawn 21 = .ok (.ireturn, 1) := by decide +kernel
theorem dX11_drawn_22 : decode cX11_drawn 22 = .ok (.iload_n 1, 1) := by decide +kernel
theorem dX11_drawn_23 : decode cX11_drawn 23 = .ok (.istore 4, 2) := by decide +kernel
theorem dX11_drawn_25 : decode cX11_drawn 25 = .ok (.iconst 0, 1) := by decide +kernel
theorem dX11_drawn_26 : decode cX11_drawn 26 = .ok (.istore 5, 2) := by decide +kernel
theorem dX11_drawn_28 : decode cX11_drawn 28 = .ok (.iconst 0, 1) := by decide +kernel
theorem dX11_drawn_29 : decode cX11_drawn 29 = .ok (.istore 6, 2) := by decide +kernel
theorem dX11_drawn_31 : decode cX11_drawn 31 = .ok (.iconst 0, 1) := by decide +kernel
theorem dX11_drawn_32 : decode cX11_drawn 32 = .ok (.istore 7, 2) := by decide +kernel
theorem dX11_drawn_34 : decode cX11_drawn 34 = .ok (.iload 7, 2) := by decide +kernel
theorem dX11_drawn_36 : decode cX11_drawn 36 = .ok (.iload_n 2, 1) := by decide +kernel
theorem dX11_drawn_37 : decode cX11_drawn 37 = .ok (.if_icmp .ge 68, 3) := by decide +kernel
theorem dX11_drawn_40 : decode cX11_drawn 40 = .ok (.aload_n 0, 1) := by decide +kernel
theorem dX11_drawn_41 : decode cX11_drawn 41 = .ok (.getfield 19, 3) := by decide +kernel
theorem dX11_drawn_44 : decode cX11_drawn 44 = .ok (.aload_n 0, 1) := by decide +kernel
theorem dX11_drawn_45 : decode cX11_drawn 45 = .ok (.getfield 10, 3) := by decide +kernel
theorem dX11_drawn_48 : decode cX11_drawn 48 = .ok (.invokevirtual 146, 3) := by decide +kernel
theorem dX11_drawn_51 : decode cX11_drawn 51 = .ok (.aload_n 0, 1) := by decide +kernel
theorem dX11_drawn_52 : decode cX11_drawn 52 = .ok (.getfield 19, 3) := by decide +kernel
theorem dX11_drawn_55 : decode cX11_drawn 55 = .ok (.aload_n 0, 1) := by decide +kernel
theorem dX11_drawn_56 : decode cX11_drawn 56 = .ok (.getfield 10, 3) := by decide +kernel
theorem dX11_drawn_59 : decode cX11_drawn 59 = .ok (.iload 4, 2) := by decide +kernel
theorem dX11_drawn_61 : decode cX11_drawn 61 = .ok (.invokevirtual 276, 3) := by decide +kernel
theorem dX11_drawn_64 : decode cX11_drawn 64 = .ok (.istore 4, 2) := by decide +kernel
theorem dX11_drawn_66 : decode cX11_drawn 66 = .ok (.iload 5, 2) := by decide +kernel
theorem dX11_drawn_68 : decode cX11_drawn 68 = .ok (.aload_n 0, 1) := by decide +kernel
theorem dX11_drawn_69 : decode cX11_drawn 69 = .ok (.getfield 19, 3) := by decide +kernel
theorem dX11_drawn_72 : decode cX11_drawn 72 = .ok (.invokevirtual 174, 3) := by decide +kernel
theorem dX11_drawn_75 : decode cX11_drawn 75 = .ok (.iadd, 1) := by decide +kernel
theorem dX11_drawn_76 : decode cX11_drawn 76 = .ok (.istore 5, 2) := by decide +kernel
theorem dX11_drawn_78 : decode cX11_drawn 78 = .ok (.iload 6, 2) := by decide +kernel
theorem dX11_drawn_80 : decode cX11_drawn 80 = .ok (.aload_n 0, 1) := by decide +kernel
theorem dX11_drawn_81 : decode cX11_drawn 81 = .ok (.getfield 19, 3) := by decide +kernel
theorem dX11_drawn_84 : decode cX11_drawn 84 = .ok (.getfield 168, 3) := by decide +kernel
theorem dX11_drawn_87 : decode cX11_drawn 87 = .ok (.iconst 2, 1) := by decide +kernel
theorem dX11_drawn_88 : decode cX11_drawn 88 = .ok (.if_icmp .ne 7, 3) := by decide +kernel
theorem dX11_drawn_91 : decode cX11_drawn 91 = .ok (.iconst 1, 1) := by decide +kernel
theorem dX11_drawn_92 : decode cX11_drawn 92 = .ok (.goto 4, 3) := by decide +kernel
theorem dX11_drawn_95 : decode cX11_drawn 95 = .ok (.iconst 0, 1) := by decide +kernel
theorem dX11_drawn_96 : decode cX11_drawn 96 = .ok (.iadd, 1) := by decide +kernel
theorem dX11_drawn_97 : decode cX11_drawn 97 = .ok (.istore 6, 2) := by decide +kernel
theorem dX11_drawn_99 : decode cX11_drawn 99 = .ok (.iinc 7 1, 3) := by decide +kernel
theorem dX11_drawn_102 : decode cX11_drawn 102 = .ok (.goto (-68), 3) := by decide +kernel
theorem dX11_drawn_105 : decode cX11_drawn 105 = .ok (.iload_n 3, 1) := by decide +kernel
theorem dX11_drawn_106 : decode cX11_drawn 106 = .ok (.ifCond .ne 8, 3) := by decide +kernel
theorem dX11_drawn_109 : decode cX11_drawn 109 = .ok (.iload 5, 2) := by decide +kernel
theorem dX11_drawn_111 : decode cX11_drawn 111 = .ok (.goto 5, 3) := by decide +kernel
theorem dX11_drawn_114 : decode cX11_drawn 114 = .ok (.iload 6, 2) := by decide +kernel
theorem dX11_drawn_116 : decode cX11_drawn 116 = .ok (.ireturn, 1) := by decide +kernel
theorem dX11_go_0 : decode cX11_go 0 = .ok (.aload_n 0, 1) := by decide +kernel
theorem dX11_go_1 : decode cX11_go 1 = .ok (.iload_n 1, 1) := by decide +kernel
theorem dX11_go_2 : decode cX11_go 2 = .ok (.invokevirtual 161, 3) := by decide +kernel
theorem dX11_go_5 : decode cX11_go 5 = .ok (.istore_n 2, 1) := by decide +kernel
theorem dX11_go_6 : decode cX11_go 6 = .ok (.iload_n 2, 1) := by decide +kernel
theorem dX11_go_7 : decode cX11_go 7 = .ok (.ifCond .eq 5, 3) := by decide +kernel
theorem dX11_go_10 : decode cX11_go 10 = .ok (.iload_n 2, 1) := by decide +kernel
theorem dX11_go_11 : decode cX11_go 11 = .ok (.ireturn, 1) := by decide +kernel
theorem dX11_go_12 : decode cX11_go 12 = .ok (.aload_n 0, 1) := by decide +kernel
theorem dX11_go_13 : decode cX11_go 13 = .ok (.iload_n 1, 1) := by decide +kernel
theorem dX11_go_14 : decode cX11_go 14 = .ok (.invokevirtual 164, 3) := by decide +kernel
theorem dX11_go_17 : decode cX11_go 17 = .ok (.aload_n 0, 1) := by decide +kernel
theorem dX11_go_18 : decode cX11_go 18 = .ok (.getfield 47, 3) := by decide +kernel
theorem dX11_go_21 : decode cX11_go 21 = .ok (.aload_n 0, 1) := by decide +kernel
theorem dX11_go_22 : decode cX11_go 22 = .ok (.getfield 19, 3) := by decide +kernel
theorem dX11_go_25 : decode cX11_go 25 = .ok (.aload_n 0, 1) := by decide +kernel
theorem dX11_go_26 : decode cX11_go 26 = .ok (.getfield 10, 3) := by decide +kernel
theorem dX11_go_29 : decode cX11_go 29 = .ok (.invokevirtual 279, 3) := by decide +kernel
theorem dX11_go_32 : decode cX11_go 32 = .ok (.aload_n 0, 1) := by decide +kernel
theorem dX11_go_33 : decode cX11_go 33 = .ok (.getfield 19, 3) := by decide +kernel
theorem dX11_go_36 : decode cX11_go 36 = .ok (.getfield 168, 3) := by decide +kernel
theorem dX11_go_39 : decode cX11_go 39 = .ok (.ireturn, 1) := by decide +kernel
theorem dX11_allIn_0 : decode cX11_allIn 0 = .ok (.aload_n 0, 1) := by decide +kernel
theorem dX11_allIn_1 : decode cX11_allIn 1 = .ok (.getfield 10, 3) := by decide +kernel
theorem dX11_allIn_4 : decode cX11_allIn 4 = .ok (.invokevirtual 283, 3) := by decide +kernel
theorem dX11_allIn_7 : decode cX11_allIn 7 = .ok (.istore_n 1, 1) := by decide +kernel
theorem dX11_allIn_8 : decode cX11_allIn 8 = .ok (.aload_n 0, 1) := by decide +kernel
theorem dX11_allIn_9 : decode cX11_allIn 9 = .ok (.getfield 10, 3) := by decide +kernel
theorem dX11_allIn_12 : decode cX11_allIn 12 = .ok (.getfield 286, 3) := by decide +kernel
theorem dX11_allIn_15 : decode cX11_allIn 15 = .ok (.invokestatic 287, 3) := by decide +kernel
theorem dX11_allIn_18 : decode cX11_allIn 18 = .ok (.istore_n 2, 1) := by decide +kernel
theorem dX11_allIn_19 : decode cX11_allIn 19 = .ok (.aload_n 0, 1) := by decide +kernel
theorem dX11_allIn_20 : decode cX11_allIn 20 = .ok (.getfield 10, 3) := by decide +kernel
theorem dX11_allIn_23 : decode cX11_allIn 23 = .ok (.iload_n 1, 1) := by decide +kernel
theorem dX11_allIn_24 : decode cX11_allIn 24 = .ok (.invokevirtual 292, 3) := by decide +kernel
theorem dX11_allIn_27 : decode cX11_allIn 27 = .ok (.aload_n 0, 1) := by decide +kernel
theorem dX11_allIn_28 : decode cX11_allIn 28 = .ok (.getfield 10, 3) := by decide +kernel
theorem dX11_allIn_31 : decode cX11_allIn 31 = .ok (.getfield 190, 3) := by decide +kernel
theorem dX11_allIn_34 : decode cX11_allIn 34 = .ok (.iload_n 2, 1) := by decide +kernel
theorem dX11_allIn_35 : decode cX11_allIn 35 = .ok (.isub, 1) := by decide +kernel
theorem dX11_allIn_36 : decode cX11_allIn 36 = .ok (.ireturn, 1) := by decide +kernel
theorem dX11_led_0 : decode cX11_led 0 = .ok (.iload_n 1, 1) := by decide +kernel
theorem dX11_led_1 : decode cX11_led 1 = .ok (.ifCond .lt 8, 3) := by decide +kernel
theorem dX11_led_4 : decode cX11_led 4 = .ok (.iload_n 1, 1) := by decide +kernel
theorem dX11_led_5 : decode cX11_led 5 = .ok (.iconst 5, 1) := by decide +kernel
theorem dX11_led_6 : decode cX11_led 6 = .ok (.if_icmp .lt 7, 3) := by decide +kernel
theorem dX11_led_9 : decode cX11_led 9 = .ok (.iconst (-1), 1) := by decide +kernel
theorem dX11_led_10 : decode cX11_led 10 = .ok (.goto 12, 3) := by decide +kernel
theorem dX11_led_13 : decode cX11_led 13 = .ok (.aload_n 0, 1) := by decide +kernel
theorem dX11_led_14 : decode cX11_led 14 = .ok (.getfield 47, 3) := by decide +kernel
theorem dX11_led_17 : decode cX11_led 17 = .ok (.getfield 295, 3) := by decide +kernel
theorem dX11_led_20 : decode cX11_led 20 = .ok (.iload_n 1, 1) := by decide +kernel
theorem dX11_led_21 : decode cX11_led 21 = .ok (.iaload, 1) := by decide +kernel
theorem dX11_led_22 : decode cX11_led 22 = .ok (.ireturn, 1) := by decide +kernel
theorem dX11_image_0 : decode cX11_image 0 = .ok (.aload_n 0, 1) := by decide +kernel
theorem dX11_image_1 : decode cX11_image 1 = .ok (.getfield 47, 3) := by decide +kernel
theorem dX11_image_4 : decode cX11_image 4 = .ok (.aload_n 0, 1) := by decide +kernel
theorem dX11_image_5 : decode cX11_image 5 = .ok (.getfield 10, 3) := by decide +kernel
theorem dX11_image_8 : decode cX11_image 8 = .ok (.invokevirtual 298, 3) := by decide +kernel
theorem dX11_image_11 : decode cX11_image 11 = .ok (.aload_n 0, 1) := by decide +kernel
theorem dX11_image_12 : decode cX11_image 12 = .ok (.getfield 47, 3) := by decide +kernel
theorem dX11_image_15 : decode cX11_image 15 = .ok (.getfield 295, 3) := by decide +kernel
theorem dX11_image_18 : decode cX11_image 18 = .ok (.iconst 0, 1) := by decide +kernel
theorem dX11_image_19 : decode cX11_image 19 = .ok (.iaload, 1) := by decide +kernel
theorem dX11_image_20 : decode cX11_image 20 = .ok (.ireturn, 1) := by decide +kernel
theorem dX11_back_0 : decode cX11_back 0 = .ok (.aload_n 0, 1) := by decide +kernel
theorem dX11_back_1 : decode cX11_back 1 = .ok (.getfield 47, 3) := by decide +kernel
theorem dX11_back_4 : decode cX11_back 4 = .ok (.aload_n 0, 1) := by decide +kernel
theorem dX11_back_5 : decode cX11_back 5 = .ok (.getfield 10, 3) := by decide +kernel
theorem dX11_back_8 : decode cX11_back 8 = .ok (.invokevirtual 301, 3) := by decide +kernel
theorem dX11_back_11 : decode cX11_back 11 = .ok (.ifCond .eq 15, 3) := by decide +kernel
theorem dX11_back_14 : decode cX11_back 14 = .ok (.aload_n 0, 1) := by decide +kernel
theorem dX11_back_15 : decode cX11_back 15 = .ok (.getfield 47, 3) := by decide +kernel
theorem dX11_back_18 : decode cX11_back 18 = .ok (.getfield 295, 3) := by decide +kernel
theorem dX11_back_21 : decode cX11_back 21 = .ok (.iconst 0, 1) := by decide +kernel
theorem dX11_back_22 : decode cX11_back 22 = .ok (.iaload, 1) := by decide +kernel
theorem dX11_back_23 : decode cX11_back 23 = .ok (.goto 5, 3) := by decide +kernel
theorem dX11_back_26 : decode cX11_back 26 = .ok (.bipush (-5), 2) := by decide +kernel
theorem dX11_back_28 : decode cX11_back 28 = .ok (.ireturn, 1) := by decide +kernel
theorem dX11_undo_0 : decode cX11_undo 0 = .ok (.aload_n 0, 1) := by decide +kernel
theorem dX11_undo_1 : decode cX11_undo 1 = .ok (.getfield 54, 3) := by decide +kernel
theorem dX11_undo_4 : decode cX11_undo 4 = .ok (.aload_n 0, 1) := by decide +kernel
theorem dX11_undo_5 : decode cX11_undo 5 = .ok (.getfield 10, 3) := by decide +kernel
theorem dX11_undo_8 : decode cX11_undo 8 = .ok (.invokevirtual 305, 3) := by decide +kernel
theorem dX11_undo_11 : decode cX11_undo 11 = .ok (.ifCond .eq 13, 3) := by decide +kernel
theorem dX11_undo_14 : decode cX11_undo 14 = .ok (.aload_n 0, 1) := by decide +kernel
theorem dX11_undo_15 : decode cX11_undo 15 = .ok (.getfield 54, 3) := by decide +kernel
theorem dX11_undo_18 : decode cX11_undo 18 = .ok (.getfield 308, 3) := by decide +kernel
theorem dX11_undo_21 : decode cX11_undo 21 = .ok (.goto 5, 3) := by decide +kernel
theorem dX11_undo_24 : decode cX11_undo 24 = .ok (.bipush (-5), 2) := by decide +kernel
theorem dX11_undo_26 : decode cX11_undo 26 = .ok (.ireturn, 1) := by decide +kernel
theorem dX11_redo_0 : decode cX11_redo 0 = .ok (.aload_n 0, 1) := by decide +kernel
theorem dX11_redo_1 : decode cX11_redo 1 = .ok (.getfield 54, 3) := by decide +kernel
theorem dX11_redo_4 : decode cX11_redo 4 = .ok (.aload_n 0, 1) := by decide +kernel
theorem dX11_redo_5 : decode cX11_redo 5 = .ok (.getfield 10, 3) := by decide +kernel
theorem dX11_redo_8 : decode cX11_redo 8 = .ok (.invokevirtual 311, 3) := by decide +kernel
theorem dX11_redo_11 : decode cX11_redo 11 = .ok (.ifCond .eq 21, 3) := by decide +kernel
theorem dX11_redo_14 : decode cX11_redo 14 = .ok (.aload_n 0, 1) := by decide +kernel
theorem dX11_redo_15 : decode cX11_redo 15 = .ok (.getfield 54, 3) := by decide +kernel
theorem dX11_redo_18 : decode cX11_redo 18 = .ok (.getfield 314, 3) := by decide +kernel
theorem dX11_redo_21 : decode cX11_redo 21 = .ok (.aload_n 0, 1) := by decide +kernel
theorem dX11_redo_22 : decode cX11_redo 22 = .ok (.getfield 54, 3) := by decide +kernel
theorem dX11_redo_25 : decode cX11_redo 25 = .ok (.getfield 308, 3) := by decide +kernel
theorem dX11_redo_28 : decode cX11_redo 28 = .ok (.isub, 1) := by decide +kernel
theorem dX11_redo_29 : decode cX11_redo 29 = .ok (.goto 5, 3) := by decide +kernel
theorem dX11_redo_32 : decode cX11_redo 32 = .ok (.bipush (-5), 2) := by decide +kernel
theorem dX11_redo_34 : decode cX11_redo 34 = .ok (.ireturn, 1) := by decide +kernel
theorem dX11_body_0 : decode cX11_body 0 = .ok (.iload_n 1, 1) := by decide +kernel
theorem dX11_body_1 : decode cX11_body 1 = .ok (.ifCond .lt 9, 3) := by decide +kernel
theorem dX11_body_4 : decode cX11_body 4 = .ok (.iload_n 1, 1) := by decide +kernel
theorem dX11_body_5 : decode cX11_body 5 = .ok (.bipush 8, 2) := by decide +kernel
theorem dX11_body_7 : decode cX11_body 7 = .ok (.if_icmp .lt 5, 3) := by decide +kernel
theorem dX11_body_10 : decode cX11_body 10 = .ok (.iconst (-1), 1) := by decide +kernel
theorem dX11_body_11 : decode cX11_body 11 = .ok (.ireturn, 1) := by decide +kernel
theorem dX11_body_12 : decode cX11_body 12 = .ok (.aload_n 0, 1) := by decide +kernel
theorem dX11_body_13 : decode cX11_body 13 = .ok (.getfield 61, 3) := by decide +kernel
theorem dX11_body_16 : decode cX11_body 16 = .ok (.invokevirtual 317, 3) := by decide +kernel
theorem dX11_body_19 : decode cX11_body 19 = .ok (.ifCond .eq 8, 3) := by decide +kernel
theorem dX11_body_22 : decode cX11_body 22 = .ok (.bipush (-3), 2) := by decide +kernel
theorem dX11_body_24 : decode cX11_body 24 = .ok (.goto 11, 3) := by decide +kernel
theorem dX11_body_27 : decode cX11_body 27 = .ok (.aload_n 0, 1) := by decide +kernel
theorem dX11_body_28 : decode cX11_body 28 = .ok (.getfield 61, 3) := by decide +kernel
theorem dX11_body_31 : decode cX11_body 31 = .ok (.iload_n 1, 1) := by decide +kernel
theorem dX11_body_32 : decode cX11_body 32 = .ok (.invokevirtual 318, 3) := by decide +kernel
theorem dX11_body_35 : decode cX11_body 35 = .ok (.ireturn, 1) := by decide +kernel
theorem dX11_act_0 : decode cX11_act 0 = .ok (.aload_n 0, 1) := by decide +kernel
theorem dX11_act_1 : decode cX11_act 1 = .ok (.getfield 61, 3) := by decide +kernel
theorem dX11_act_4 : decode cX11_act 4 = .ok (.iconst 0, 1) := by decide +kernel
theorem dX11_act_5 : decode cX11_act 5 = .ok (.putfield 319, 3) := by decide +kernel
theorem dX11_act_8 : decode cX11_act 8 = .ok (.aload_n 0, 1) := by decide +kernel
theorem dX11_act_9 : decode cX11_act 9 = .ok (.getfield 61, 3) := by decide +kernel
theorem dX11_act_12 : decode cX11_act 12 = .ok (.iload_n 1, 1) := by decide +kernel
theorem dX11_act_13 : decode cX11_act 13 = .ok (.invokevirtual 322, 3) := by decide +kernel
theorem dX11_act_16 : decode cX11_act 16 = .ok (.ifCond .eq 12, 3) := by decide +kernel
theorem dX11_act_19 : decode cX11_act 19 = .ok (.iload_n 2, 1) := by decide +kernel
theorem dX11_act_20 : decode cX11_act 20 = .ok (.ifCond .lt 8, 3) := by decide +kernel
theorem dX11_act_23 : decode cX11_act 23 = .ok (.iload_n 2, 1) := by decide +kernel
theorem dX11_act_24 : decode cX11_act 24 = .ok (.iconst 4, 1) := by decide +kernel
theorem dX11_act_25 : decode cX11_act 25 = .ok (.if_icmp .lt 5, 3) := by decide +kernel
theorem dX11_act_28 : decode cX11_act 28 = .ok (.iconst 0, 1) := by decide +kernel
theorem dX11_act_29 : decode cX11_act 29 = .ok (.ireturn, 1) := by decide +kernel
theorem dX11_act_30 : decode cX11_act 30 = .ok (.aload_n 0, 1) := by decide +kernel
theorem dX11_act_31 : decode cX11_act 31 = .ok (.getfield 61, 3) := by decide +kernel
theorem dX11_act_34 : decode cX11_act 34 = .ok (.iload_n 1, 1) := by decide +kernel
theorem dX11_act_35 : decode cX11_act 35 = .ok (.iload_n 2, 1) := by decide +kernel
theorem dX11_act_36 : decode cX11_act 36 = .ok (.iload_n 3, 1) := by decide +kernel
theorem dX11_act_37 : decode cX11_act 37 = .ok (.iconst 0, 1) := by decide +kernel
theorem dX11_act_38 : decode cX11_act 38 = .ok (.invokevirtual 324, 3) := by decide +kernel
theorem dX11_act_41 : decode cX11_act 41 = .ok (.ireturn, 1) := by decide +kernel
theorem dX11_trace_0 : decode cX11_trace 0 = .ok (.iload_n 1, 1) := by decide +kernel
theorem dX11_trace_1 : decode cX11_trace 1 = .ok (.ifCond .lt 14, 3) := by decide +kernel
theorem dX11_trace_4 : decode cX11_trace 4 = .ok (.iload_n 1, 1) := by decide +kernel
theorem dX11_trace_5 : decode cX11_trace 5 = .ok (.aload_n 0, 1) := by decide +kernel
theorem dX11_trace_6 : decode cX11_trace 6 = .ok (.getfield 61, 3) := by decide +kernel
theorem dX11_trace_9 : decode cX11_trace 9 = .ok (.invokevirtual 328, 3) := by decide +kernel
theorem dX11_trace_12 : decode cX11_trace 12 = .ok (.if_icmp .lt 7, 3) := by decide +kernel
theorem dX11_trace_15 : decode cX11_trace 15 = .ok (.iconst (-1), 1) := by decide +kernel
theorem dX11_trace_16 : decode cX11_trace 16 = .ok (.goto 12, 3) := by decide +kernel
theorem dX11_trace_19 : decode cX11_trace 19 = .ok (.aload_n 0, 1) := by decide +kernel
theorem dX11_trace_20 : decode cX11_trace 20 = .ok (.getfield 61, 3) := by decide +kernel
theorem dX11_trace_23 : decode cX11_trace 23 = .ok (.getfield 331, 3) := by decide +kernel
theorem dX11_trace_26 : decode cX11_trace 26 = .ok (.iload_n 1, 1) := by decide +kernel
theorem dX11_trace_27 : decode cX11_trace 27 = .ok (.iaload, 1) := by decide +kernel
theorem dX11_trace_28 : decode cX11_trace 28 = .ok (.ireturn, 1) := by decide +kernel
theorem dX11_keep_0 : decode cX11_keep 0 = .ok (.iload_n 1, 1) := by decide +kernel
theorem dX11_keep_1 : decode cX11_keep 1 = .ok (.invokestatic 95, 3) := by decide +kernel
theorem dX11_keep_4 : decode cX11_keep 4 = .ok (.ifCond .ne 19, 3) := by decide +kernel
theorem dX11_keep_7 : decode cX11_keep 7 = .ok (.iload_n 2, 1) := by decide +kernel
theorem dX11_keep_8 : decode cX11_keep 8 = .ok (.iconst (-1), 1) := by decide +kernel
theorem dX11_keep_9 : decode cX11_keep 9 = .ok (.if_icmp .eq 16, 3) := by decide +kernel
theorem dX11_keep_12 : decode cX11_keep 12 = .ok (.aload_n 0, 1) := by decide +kernel
theorem dX11_keep_13 : decode cX11_keep 13 = .ok (.getfield 61, 3) := by decide +kernel
theorem dX11_keep_16 : decode cX11_keep 16 = .ok (.iload_n 2, 1) := by decide +kernel
theorem dX11_keep_17 : decode cX11_keep 17 = .ok (.invokevirtual 322, 3) := by decide +kernel
theorem dX11_keep_20 : decode cX11_keep 20 = .ok (.ifCond .ne 5, 3) := by decide +kernel
theorem dX11_keep_23 : decode cX11_keep 23 = .ok (.iconst (-1), 1) := by decide +kernel
theorem dX11_keep_24 : decode cX11_keep 24 = .ok (.ireturn, 1) := by decide +kernel
theorem dX11_keep_25 : decode cX11_keep 25 = .ok (.aload_n 0, 1) := by decide +kernel
theorem dX11_keep_26 : decode cX11_keep 26 = .ok (.getfield 67, 3) := by decide +kernel
theorem dX11_keep_29 : decode cX11_keep 29 = .ok (.iload_n 1, 1) := by decide +kernel
theorem dX11_keep_30 : decode cX11_keep 30 = .ok (.aaload, 1) := by decide +kernel
theorem dX11_keep_31 : decode cX11_keep 31 = .ok (.iload_n 2, 1) := by decide +kernel
theorem dX11_keep_32 : decode cX11_keep 32 = .ok (.invokevirtual 334, 3) := by decide +kernel
theorem dX11_keep_35 : decode cX11_keep 35 = .ok (.iconst 1, 1) := by decide +kernel
theorem dX11_keep_36 : decode cX11_keep 36 = .ok (.ireturn, 1) := by decide +kernel
theorem dX11_row_0 : decode cX11_row 0 = .ok (.iload_n 1, 1) := by decide +kernel
theorem dX11_row_1 : decode cX11_row 1 = .ok (.invokestatic 95, 3) := by decide +kernel
theorem dX11_row_4 : decode cX11_row 4 = .ok (.ifCond .ne 18, 3) := by decide +kernel
theorem dX11_row_7 : decode cX11_row 7 = .ok (.iload_n 2, 1) := by decide +kernel
theorem dX11_row_8 : decode cX11_row 8 = .ok (.ifCond .lt 14, 3) := by decide +kernel
theorem dX11_row_11 : decode cX11_row 11 = .ok (.iload_n 2, 1) := by decide +kernel
theorem dX11_row_12 : decode cX11_row 12 = .ok (.iconst 4, 1) := by decide +kernel
theorem dX11_row_13 : decode cX11_row 13 = .ok (.if_icmp .gt 9, 3) := by decide +kernel
theorem dX11_row_16 : decode cX11_row 16 = .ok (.iload_n 3, 1) := by decide +kernel
theorem dX11_row_17 : decode cX11_row 17 = .ok (.bipush 60, 2) := by decide +kernel
theorem dX11_row_19 : decode cX11_row 19 = .ok (.if_icmp .le 5, 3) := by decide +kernel
theorem dX11_row_22 : decode cX11_row 22 = .ok (.iconst (-1), 1) := by decide +kernel
theorem dX11_row_23 : decode cX11_row 23 = .ok (.ireturn, 1) := by decide +kernel
theorem dX11_row_24 : decode cX11_row 24 = .ok (.iload_n 3, 1) := by decide +kernel
theorem dX11_row_25 : decode cX11_row 25 = .ok (.ifCond .ge 6, 3) := by decide +kernel
theorem dX11_row_28 : decode cX11_row 28 = .ok (.bipush (-14), 2) := by decide +kernel
theorem dX11_row_30 : decode cX11_row 30 = .ok (.ireturn, 1) := by decide +kernel
theorem dX11_row_31 : decode cX11_row 31 = .ok (.aload_n 0, 1) := by decide +kernel
theorem dX11_row_32 : decode cX11_row 32 = .ok (.getfield 67, 3) := by decide +kernel
theorem dX11_row_35 : decode cX11_row 35 = .ok (.iload_n 1, 1) := by decide +kernel
theorem dX11_row_36 : decode cX11_row 36 = .ok (.aaload, 1) := by decide +kernel
theorem dX11_row_37 : decode cX11_row 37 = .ok (.iload_n 2, 1) := by decide +kernel
theorem dX11_row_38 : decode cX11_row 38 = .ok (.iload_n 3, 1) := by decide +kernel
theorem dX11_row_39 : decode cX11_row 39 = .ok (.invokevirtual 337, 3) := by decide +kernel
theorem dX11_row_42 : decode cX11_row 42 = .ok (.iconst 1, 1) := by decide +kernel
theorem dX11_row_43 : decode cX11_row 43 = .ok (.ireturn, 1) := by decide +kernel
theorem dX11_put_0 : decode cX11_put 0 = .ok (.aload_n 0, 1) := by decide +kernel
theorem dX11_put_1 : decode cX11_put 1 = .ok (.iload_n 1, 1) := by decide +kernel
theorem dX11_put_2 : decode cX11_put 2 = .ok (.iload_n 2, 1) := by decide +kernel
theorem dX11_put_3 : decode cX11_put 3 = .ok (.invokevirtual 341, 3) := by decide +kernel
theorem dX11_put_6 : decode cX11_put 6 = .ok (.istore 5, 2) := by decide +kernel
theorem dX11_put_8 : decode cX11_put 8 = .ok (.iload 5, 2) := by decide +kernel
theorem dX11_put_10 : decode cX11_put 10 = .ok (.ifCond .eq 6, 3) := by decide +kernel
theorem dX11_put_13 : decode cX11_put 13 = .ok (.iload 5, 2) := by decide +kernel
theorem dX11_put_15 : decode cX11_put 15 = .ok (.ireturn, 1) := by decide +kernel
theorem dX11_put_16 : decode cX11_put 16 = .ok (.aload_n 0, 1) := by decide +kernel
theorem dX11_put_17 : decode cX11_put 17 = .ok (.getfield 67, 3) := by decide +kernel
theorem dX11_put_20 : decode cX11_put 20 = .ok (.iload_n 1, 1) := by decide +kernel
theorem dX11_put_21 : decode cX11_put 21 = .ok (.aaload, 1) := by decide +kernel
theorem dX11_put_22 : decode cX11_put 22 = .ok (.iload_n 2, 1) := by decide +kernel
theorem dX11_put_23 : decode cX11_put 23 = .ok (.lload_n 3, 1) := by decide +kernel
theorem dX11_put_24 : decode cX11_put 24 = .ok (.invokevirtual 344, 3) := by decide +kernel
theorem dX11_put_27 : decode cX11_put 27 = .ok (.iconst 1, 1) := by decide +kernel
theorem dX11_put_28 : decode cX11_put 28 = .ok (.ireturn, 1) := by decide +kernel
theorem dX11_element_0 : decode cX11_element 0 = .ok (.aload_n 0, 1) := by decide +kernel
theorem dX11_element_1 : decode cX11_element 1 = .ok (.iload_n 1, 1) := by decide +kernel
theorem dX11_element_2 : decode cX11_element 2 = .ok (.iload_n 2, 1) := by decide +kernel
theorem dX11_element_3 : decode cX11_element 3 = .ok (.invokevirtual 341, 3) := by decide +kernel
theorem dX11_element_6 : decode cX11_element 6 = .ok (.ifCond .eq 9, 3) := by decide +kernel
theorem dX11_element_9 : decode cX11_element 9 = .ok (.ldc2_w 350, 3) := by decide +kernel
theorem dX11_element_12 : decode cX11_element 12 = .ok (.goto 14, 3) := by decide +kernel
theorem dX11_element_15 : decode cX11_element 15 = .ok (.aload_n 0, 1) := by decide +kernel
theorem dX11_element_16 : decode cX11_element 16 = .ok (.getfield 67, 3) := by decide +kernel
theorem dX11_element_19 : decode cX11_element 19 = .ok (.iload_n 1, 1) := by decide +kernel
theorem dX11_element_20 : decode cX11_element 20 = .ok (.aaload, 1) := by decide +kernel
theorem dX11_element_21 : decode cX11_element 21 = .ok (.getfield 352, 3) := by decide +kernel
theorem dX11_element_24 : decode cX11_element 24 = .ok (.iload_n 2, 1) := by decide +kernel
theorem dX11_element_25 : decode cX11_element 25 = .ok (.laload, 1) := by decide +kernel
theorem dX11_element_26 : decode cX11_element 26 = .ok (.lreturn, 1) := by decide +kernel
theorem dX11_shift_0 : decode cX11_shift 0 = .ok (.iload_n 1, 1) := by decide +kernel
theorem dX11_shift_1 : decode cX11_shift 1 = .ok (.invokestatic 95, 3) := by decide +kernel
theorem dX11_shift_4 : decode cX11_shift 4 = .ok (.ifCond .ne 10, 3) := by decide +kernel
theorem dX11_shift_7 : decode cX11_shift 7 = .ok (.iload_n 3, 1) := by decide +kernel
theorem dX11_shift_8 : decode cX11_shift 8 = .ok (.invokestatic 95, 3) := by decide +kernel
theorem dX11_shift_11 : decode cX11_shift 11 = .ok (.ifCond .eq 5, 3) := by decide +kernel
theorem dX11_shift_14 : decode cX11_shift 14 = .ok (.iconst (-1), 1) := by decide +kernel
theorem dX11_shift_15 : decode cX11_shift 15 = .ok (.ireturn, 1) := by decide +kernel
theorem dX11_shift_16 : decode cX11_shift 16 = .ok (.aload_n 0, 1) := by decide +kernel
theorem dX11_shift_17 : decode cX11_shift 17 = .ok (.getfield 67, 3) := by decide +kernel
theorem dX11_shift_20 : decode cX11_shift 20 = .ok (.iload_n 1, 1) := by decide +kernel
theorem dX11_shift_21 : decode cX11_shift 21 = .ok (.aaload, 1) := by decide +kernel
theorem dX11_shift_22 : decode cX11_shift 22 = .ok (.astore 6, 2) := by decide +kernel
theorem dX11_shift_24 : decode cX11_shift 24 = .ok (.aload_n 0, 1) := by decide +kernel
theorem dX11_shift_25 : decode cX11_shift 25 = .ok (.getfield 67, 3) := by decide +kernel
theorem dX11_shift_28 : decode cX11_shift 28 = .ok (.iload_n 3, 1) := by decide +kernel
theorem dX11_shift_29 : decode cX11_shift 29 = .ok (.aaload, 1) := by decide +kernel
theorem dX11_shift_30 : decode cX11_shift 30 = .ok (.astore 7, 2) := by decide +kernel
theorem dX11_shift_32 : decode cX11_shift 32 = .ok (.aload 6, 2) := by decide +kernel
theorem dX11_shift_34 : decode cX11_shift 34 = .ok (.invokevirtual 99, 3) := by decide +kernel
theorem dX11_shift_37 : decode cX11_shift 37 = .ok (.ifCond .ne 11, 3) := by decide +kernel
theorem dX11_shift_40 : decode cX11_shift 40 = .ok (.aload 7, 2) := by decide +kernel
theorem dX11_shift_42 : decode cX11_shift 42 = .ok (.invokevirtual 99, 3) := by decide +kernel
theorem dX11_shift_45 : decode cX11_shift 45 = .ok (.ifCond .eq 6, 3) := by decide +kernel
theorem dX11_shift_48 : decode cX11_shift 48 = .ok (.bipush (-11), 2) := by decide +kernel
theorem dX11_shift_50 : decode cX11_shift 50 = .ok (.ireturn, 1) := by decide +kernel
theorem dX11_shift_51 : decode cX11_shift 51 = .ok (.aload 6, 2) := by decide +kernel
theorem dX11_shift_53 : decode cX11_shift 53 = .ok (.invokevirtual 356, 3) := by decide +kernel
theorem dX11_shift_56 : decode cX11_shift 56 = .ok (.ifCond .eq 24, 3) := by decide +kernel
theorem dX11_shift_59 : decode cX11_shift 59 = .ok (.aload 7, 2) := by decide +kernel
theorem dX11_shift_61 : decode cX11_shift 61 = .ok (.invokevirtual 356, 3) := by decide +kernel
theorem dX11_shift_64 : decode cX11_shift 64 = .ok (.ifCond .eq 16, 3) := by decide +kernel
theorem dX11_shift_67 : decode cX11_shift 67 = .ok (.aload 6, 2) := by decide +kernel
theorem dX11_shift_69 : decode cX11_shift 69 = .ok (.getfield 359, 3) := by decide +kernel
theorem dX11_shift_72 : decode cX11_shift 72 = .ok (.aload 7, 2) := by decide +kernel
theorem dX11_shift_74 : decode cX11_shift 74 = .ok (.getfield 359, 3) := by decide +kernel
theorem dX11_shift_77 : decode cX11_shift 77 = .ok (.if_icmp .eq 6, 3) := by decide +kernel
theorem dX11_shift_80 : decode cX11_shift 80 = .ok (.bipush (-12), 2) := by decide +kernel
theorem dX11_shift_82 : decode cX11_shift 82 = .ok (.ireturn, 1) := by decide +kernel
theorem dX11_shift_83 : decode cX11_shift 83 = .ok (.aload 6, 2) := by decide +kernel
theorem dX11_shift_85 : decode cX11_shift 85 = .ok (.iload_n 2, 1) := by decide +kernel
theorem dX11_shift_86 : decode cX11_shift 86 = .ok (.iload 5, 2) := by decide +kernel
theorem dX11_shift_88 : decode cX11_shift 88 = .ok (.invokevirtual 362, 3) := by decide +kernel
theorem dX11_shift_91 : decode cX11_shift 91 = .ok (.ifCond .eq 15, 3) := by decide +kernel
theorem dX11_shift_94 : decode cX11_shift 94 = .ok (.aload 7, 2) := by decide +kernel
theorem dX11_shift_96 : decode cX11_shift 96 = .ok (.iload 4, 2) := by decide +kernel
theorem dX11_shift_98 : decode cX11_shift 98 = .ok (.iload 5, 2) := by decide +kernel
theorem dX11_shift_100 : decode cX11_shift 100 = .ok (.invokevirtual 362, 3) := by decide +kernel
theorem dX11_shift_103 : decode cX11_shift 103 = .ok (.ifCond .ne 6, 3) := by decide +kernel
theorem dX11_shift_106 : decode cX11_shift 106 = .ok (.bipush (-13), 2) := by decide +kernel
theorem dX11_shift_108 : decode cX11_shift 108 = .ok (.ireturn, 1) := by decide +kernel
theorem dX11_shift_109 : decode cX11_shift 109 = .ok (.aload 6, 2) := by decide +kernel
theorem dX11_shift_111 : decode cX11_shift 111 = .ok (.getfield 352, 3) := by decide +kernel
theorem dX11_shift_114 : decode cX11_shift 114 = .ok (.iload_n 2, 1) := by decide +kernel
theorem dX11_shift_115 : decode cX11_shift 115 = .ok (.aload 7, 2) := by decide +kernel
theorem dX11_shift_117 : decode cX11_shift 117 = .ok (.getfield 352, 3) := by decide +kernel
theorem dX11_shift_120 : decode cX11_shift 120 = .ok (.iload 4, 2) := by decide +kernel
theorem dX11_shift_122 : decode cX11_shift 122 = .ok (.iload 5, 2) := by decide +kernel
theorem dX11_shift_124 : decode cX11_shift 124 = .ok (.invokestatic 365, 3) := by decide +kernel
theorem dX11_shift_127 : decode cX11_shift 127 = .ok (.iload 5, 2) := by decide +kernel
theorem dX11_shift_129 : decode cX11_shift 129 = .ok (.ireturn, 1) := by decide +kernel
theorem dX11_taken_0 : decode cX11_taken 0 = .ok (.iload_n 1, 1) := by decide +kernel
theorem dX11_taken_1 : decode cX11_taken 1 = .ok (.invokestatic 95, 3) := by decide +kernel
theorem dX11_taken_4 : decode cX11_taken 4 = .ok (.ifCond .ne 13, 3) := by decide +kernel
theorem dX11_taken_7 : decode cX11_taken 7 = .ok (.iload_n 2, 1) := by decide +kernel
theorem dX11_taken_8 : decode cX11_taken 8 = .ok (.ifCond .lt 9, 3) := by decide +kernel
theorem dX11_taken_11 : decode cX11_taken 11 = .ok (.iload_n 2, 1) := by decide +kernel
theorem dX11_taken_12 : decode cX11_taken 12 = .ok (.bipush 8, 2) := by decide +kernel
theorem dX11_taken_14 : decode cX11_taken 14 = .ok (.if_icmp .lt 5, 3) := by decide +kernel
theorem dX11_taken_17 : decode cX11_taken 17 = .ok (.iconst (-1), 1) := by decide +kernel
theorem dX11_taken_18 : decode cX11_taken 18 = .ok (.ireturn, 1) := by decide +kernel
theorem dX11_taken_19 : decode cX11_taken 19 = .ok (.aload_n 0, 1) := by decide +kernel
theorem dX11_taken_20 : decode cX11_taken 20 = .ok (.getfield 67, 3) := by decide +kernel
theorem dX11_taken_23 : decode cX11_taken 23 = .ok (.iload_n 1, 1) := by decide +kernel
theorem dX11_taken_24 : decode cX11_taken 24 = .ok (.aaload, 1) := by decide +kernel
theorem dX11_taken_25 : decode cX11_taken 25 = .ok (.astore_n 3, 1) := by decide +kernel
theorem dX11_taken_26 : decode cX11_taken 26 = .ok (.aload_n 3, 1) := by decide +kernel
theorem dX11_taken_27 : decode cX11_taken 27 = .ok (.invokevirtual 99, 3) := by decide +kernel
theorem dX11_taken_30 : decode cX11_taken 30 = .ok (.ifCond .eq 6, 3) := by decide +kernel
theorem dX11_taken_33 : decode cX11_taken 33 = .ok (.bipush (-11), 2) := by decide +kernel
theorem dX11_taken_35 : decode cX11_taken 35 = .ok (.ireturn, 1) := by decide +kernel
theorem dX11_taken_36 : decode cX11_taken 36 = .ok (.aload_n 3, 1) := by decide +kernel
theorem dX11_taken_37 : decode cX11_taken 37 = .ok (.invokevirtual 356, 3) := by decide +kernel
theorem dX11_taken_40 : decode cX11_taken 40 = .ok (.ifCond .ne 17, 3) := by decide +kernel
theorem dX11_taken_43 : decode cX11_taken 43 = .ok (.aload_n 0, 1) := by decide +kernel
theorem dX11_taken_44 : decode cX11_taken 44 = .ok (.getfield 61, 3) := by decide +kernel
theorem dX11_taken_47 : decode cX11_taken 47 = .ok (.aload_n 3, 1) := by decide +kernel
theorem dX11_taken_48 : decode cX11_taken 48 = .ok (.getfield 371, 3) := by decide +kernel
theorem dX11_taken_51 : decode cX11_taken 51 = .ok (.invokevirtual 322, 3) := by decide +kernel
theorem dX11_taken_54 : decode cX11_taken 54 = .ok (.ifCond .ne 6, 3) := by decide +kernel
theorem dX11_taken_57 : decode cX11_taken 57 = .ok (.bipush (-12), 2) := by decide +kernel
theorem dX11_taken_59 : decode cX11_taken 59 = .ok (.ireturn, 1) := by decide +kernel
theorem dX11_taken_60 : decode cX11_taken 60 = .ok (.aload_n 0, 1) := by decide +kernel
theorem dX11_taken_61 : decode cX11_taken 61 = .ok (.getfield 61, 3) := by decide +kernel
theorem dX11_taken_64 : decode cX11_taken 64 = .ok (.getfield 374, 3) := by decide +kernel
theorem dX11_taken_67 : decode cX11_taken 67 = .ok (.aload_n 3, 1) := by decide +kernel
theorem dX11_taken_68 : decode cX11_taken 68 = .ok (.getfield 371, 3) := by decide +kernel
theorem dX11_taken_71 : decode cX11_taken 71 = .ok (.iaload, 1) := by decide +kernel
theorem dX11_taken_72 : decode cX11_taken 72 = .ok (.istore 4, 2) := by decide +kernel
theorem dX11_taken_74 : decode cX11_taken 74 = .ok (.iload 4, 2) := by decide +kernel
theorem dX11_taken_76 : decode cX11_taken 76 = .ok (.iload_n 2, 1) := by decide +kernel
theorem dX11_taken_77 : decode cX11_taken 77 = .ok (.invokestatic 377, 3) := by decide +kernel
theorem dX11_taken_80 : decode cX11_taken 80 = .ok (.ifCond .eq 8, 3) := by decide +kernel
theorem dX11_taken_83 : decode cX11_taken 83 = .ok (.iload 4, 2) := by decide +kernel
theorem dX11_taken_85 : decode cX11_taken 85 = .ok (.goto 5, 3) := by decide +kernel
theorem dX11_taken_88 : decode cX11_taken 88 = .ok (.bipush (-12), 2) := by decide +kernel
theorem dX11_taken_90 : decode cX11_taken 90 = .ok (.ireturn, 1) := by decide +kernel
theorem dX11_count_0 : decode cX11_count 0 = .ok (.iload_n 1, 1) := by decide +kernel
theorem dX11_count_1 : decode cX11_count 1 = .ok (.tableswitch 90 0 5 #[39, 47, 58, 66, 74, 82], 39) := by decide +kernel
theorem dX11_count_40 : decode cX11_count 40 = .ok (.aload_n 0, 1) := by decide +kernel
theorem dX11_count_41 : decode cX11_count 41 = .ok (.getfield 10, 3) := by decide +kernel
theorem dX11_count_44 : decode cX11_count 44 = .ok (.getfield 190, 3) := by decide +kernel
theorem dX11_count_47 : decode cX11_count 47 = .ok (.ireturn, 1) := by decide +kernel
theorem dX11_count_48 : decode cX11_count 48 = .ok (.aload_n 0, 1) := by decide +kernel
theorem dX11_count_49 : decode cX11_count 49 = .ok (.getfield 10, 3) := by decide +kernel
theorem dX11_count_52 : decode cX11_count 52 = .ok (.getfield 286, 3) := by decide +kernel
theorem dX11_count_55 : decode cX11_count 55 = .ok (.invokestatic 287, 3) := by decide +kernel
theorem dX11_count_58 : decode cX11_count 58 = .ok (.ireturn, 1) := by decide +kernel
theorem dX11_count_59 : decode cX11_count 59 = .ok (.aload_n 0, 1) := by decide +kernel
theorem dX11_count_60 : decode cX11_count 60 = .ok (.getfield 74, 3) := by decide +kernel
theorem dX11_count_63 : decode cX11_count 63 = .ok (.getfield 380, 3) := by decide +kernel
theorem dX11_count_66 : decode cX11_count 66 = .ok (.ireturn, 1) := by decide +kernel
theorem dX11_count_67 : decode cX11_count 67 = .ok (.aload_n 0, 1) := by decide +kernel
theorem dX11_count_68 : decode cX11_count 68 = .ok (.getfield 54, 3) := by decide +kernel
theorem dX11_count_71 : decode cX11_count 71 = .ok (.getfield 308, 3) := by decide +kernel
theorem dX11_count_74 : decode cX11_count 74 = .ok (.ireturn, 1) := by decide +kernel
theorem dX11_count_75 : decode cX11_count 75 = .ok (.aload_n 0, 1) := by decide +kernel
theorem dX11_count_76 : decode cX11_count 76 = .ok (.getfield 61, 3) := by decide +kernel
theorem dX11_count_79 : decode cX11_count 79 = .ok (.getfield 383, 3) := by decide +kernel
theorem dX11_count_82 : decode cX11_count 82 = .ok (.ireturn, 1) := by decide +kernel
theorem dX11_count_83 : decode cX11_count 83 = .ok (.aload_n 0, 1) := by decide +kernel
theorem dX11_count_84 : decode cX11_count 84 = .ok (.getfield 61, 3) := by decide +kernel
theorem dX11_count_87 : decode cX11_count 87 = .ok (.getfield 319, 3) := by decide +kernel
theorem dX11_count_90 : decode cX11_count 90 = .ok (.ireturn, 1) := by decide +kernel
theorem dX11_count_91 : decode cX11_count 91 = .ok (.iconst (-1), 1) := by decide +kernel
theorem dX11_count_92 : decode cX11_count 92 = .ok (.ireturn, 1) := by decide +kernel
theorem dX11_isCell_0 : decode cX11_isCell 0 = .ok (.iload_n 0, 1) := by decide +kernel
theorem dX11_isCell_1 : decode cX11_isCell 1 = .ok (.bipush 10, 2) := by decide +kernel
theorem dX11_isCell_3 : decode cX11_isCell 3 = .ok (.iload_n 1, 1) := by decide +kernel
theorem dX11_isCell_4 : decode cX11_isCell 4 = .ok (.imul, 1) := by decide +kernel
theorem dX11_isCell_5 : decode cX11_isCell 5 = .ok (.if_icmp .lt 25, 3) := by decide +kernel
theorem dX11_isCell_8 : decode cX11_isCell 8 = .ok (.iload_n 0, 1) := by decide +kernel
theorem dX11_isCell_9 : decode cX11_isCell 9 = .ok (.bipush 10, 2) := by decide +kernel
theorem dX11_isCell_11 : decode cX11_isCell 11 = .ok (.idiv, 1) := by decide +kernel
theorem dX11_isCell_12 : decode cX11_isCell 12 = .ok (.bipush 8, 2) := by decide +kernel
theorem dX11_isCell_14 : decode cX11_isCell 14 = .ok (.if_icmp .gt 16, 3) := by decide +kernel
theorem dX11_isCell_17 : decode cX11_isCell 17 = .ok (.iload_n 0, 1) := by decide +kernel
theorem dX11_isCell_18 : decode cX11_isCell 18 = .ok (.bipush 10, 2) := by decide +kernel
theorem dX11_isCell_20 : decode cX11_isCell 20 = .ok (.irem, 1) := by decide +kernel
theorem dX11_isCell_21 : decode cX11_isCell 21 = .ok (.bipush 8, 2) := by decide +kernel
theorem dX11_isCell_23 : decode cX11_isCell 23 = .ok (.if_icmp .gt 7, 3) := by decide +kernel
theorem dX11_isCell_26 : decode cX11_isCell 26 = .ok (.iconst 1, 1) := by decide +kernel
theorem dX11_isCell_27 : decode cX11_isCell 27 = .ok (.goto 4, 3) := by decide +kernel
theorem dX11_isCell_30 : decode cX11_isCell 30 = .ok (.iconst 0, 1) := by decide +kernel
theorem dX11_isCell_31 : decode cX11_isCell 31 = .ok (.ireturn, 1) := by decide +kernel
theorem dX11_noSuchShelf_0 : decode cX11_noSuchShelf 0 = .ok (.iload_n 0, 1) := by decide +kernel
theorem dX11_noSuchShelf_1 : decode cX11_noSuchShelf 1 = .ok (.ifCond .lt 9, 3) := by decide +kernel
theorem dX11_noSuchShelf_4 : decode cX11_noSuchShelf 4 = .ok (.iload_n 0, 1) := by decide +kernel
theorem dX11_noSuchShelf_5 : decode cX11_noSuchShelf 5 = .ok (.bipush 6, 2) := by decide +kernel
theorem dX11_noSuchShelf_7 : decode cX11_noSuchShelf 7 = .ok (.if_icmp .lt 7, 3) := by decide +kernel
theorem dX11_noSuchShelf_10 : decode cX11_noSuchShelf 10 = .ok (.iconst 1, 1) := by decide +kernel
theorem dX11_noSuchShelf_11 : decode cX11_noSuchShelf 11 = .ok (.goto 4, 3) := by decide +kernel
theorem dX11_noSuchShelf_14 : decode cX11_noSuchShelf 14 = .ok (.iconst 0, 1) := by decide +kernel
theorem dX11_noSuchShelf_15 : decode cX11_noSuchShelf 15 = .ok (.ireturn, 1) := by decide +kernel
theorem dX11_notOdds_0 : decode cX11_notOdds 0 = .ok (.iload_n 0, 1) := by decide +kernel
theorem dX11_notOdds_1 : decode cX11_notOdds 1 = .ok (.ifCond .lt 30, 3) := by decide +kernel
theorem dX11_notOdds_4 : decode cX11_notOdds 4 = .ok (.iload_n 0, 1) := by decide +kernel
theorem dX11_notOdds_5 : decode cX11_notOdds 5 = .ok (.bipush 20, 2) := by decide +kernel
theorem dX11_notOdds_7 : decode cX11_notOdds 7 = .ok (.if_icmp .gt 24, 3) := by decide +kernel
theorem dX11_notOdds_10 : decode cX11_notOdds 10 = .ok (.iload_n 1, 1) := by decide +kernel
theorem dX11_notOdds_11 : decode cX11_notOdds 11 = .ok (.bipush (-30), 2) := by decide +kernel
theorem dX11_notOdds_13 : decode cX11_notOdds 13 = .ok (.if_icmp .lt 18, 3) := by decide +kernel
theorem dX11_notOdds_16 : decode cX11_notOdds 16 = .ok (.iload_n 1, 1) := by decide +kernel
theorem dX11_notOdds_17 : decode cX11_notOdds 17 = .ok (.bipush 30, 2) := by decide +kernel
theorem dX11_notOdds_19 : decode cX11_notOdds 19 = .ok (.if_icmp .gt 12, 3) := by decide +kernel
theorem dX11_notOdds_22 : decode cX11_notOdds 22 = .ok (.iload_n 2, 1) := by decide +kernel
theorem dX11_notOdds_23 : decode cX11_notOdds 23 = .ok (.ifCond .lt 8, 3) := by decide +kernel
theorem dX11_notOdds_26 : decode cX11_notOdds 26 = .ok (.iload_n 2, 1) := by decide +kernel
theorem dX11_notOdds_27 : decode cX11_notOdds 27 = .ok (.iconst 1, 1) := by decide +kernel
theorem dX11_notOdds_28 : decode cX11_notOdds 28 = .ok (.if_icmp .le 7, 3) := by decide +kernel
theorem dX11_notOdds_31 : decode cX11_notOdds 31 = .ok (.iconst 1, 1) := by decide +kernel
theorem dX11_notOdds_32 : decode cX11_notOdds 32 = .ok (.goto 4, 3) := by decide +kernel
theorem dX11_notOdds_35 : decode cX11_notOdds 35 = .ok (.iconst 0, 1) := by decide +kernel
theorem dX11_notOdds_36 : decode cX11_notOdds 36 = .ok (.ireturn, 1) := by decide +kernel
theorem dX11_notSizes_0 : decode cX11_notSizes 0 = .ok (.iload_n 0, 1) := by decide +kernel
theorem dX11_notSizes_1 : decode cX11_notSizes 1 = .ok (.bipush 10, 2) := by decide +kernel
theorem dX11_notSizes_3 : decode cX11_notSizes 3 = .ok (.idiv, 1) := by decide +kernel
theorem dX11_notSizes_4 : decode cX11_notSizes 4 = .ok (.istore_n 1, 1) := by decide +kernel
theorem dX11_notSizes_5 : decode cX11_notSizes 5 = .ok (.iload_n 0, 1) := by decide +kernel
theorem dX11_notSizes_6 : decode cX11_notSizes 6 = .ok (.bipush 10, 2) := by decide +kernel
theorem dX11_notSizes_8 : decode cX11_notSizes 8 = .ok (.irem, 1) := by decide +kernel
theorem dX11_notSizes_9 : decode cX11_notSizes 9 = .ok (.istore_n 2, 1) := by decide +kernel
theorem dX11_notSizes_10 : decode cX11_notSizes 10 = .ok (.iload_n 1, 1) := by decide +kernel
theorem dX11_notSizes_11 : decode cX11_notSizes 11 = .ok (.iconst 1, 1) := by decide +kernel
theorem dX11_notSizes_12 : decode cX11_notSizes 12 = .ok (.if_icmp .lt 20, 3) := by decide +kernel
theorem dX11_notSizes_15 : decode cX11_notSizes 15 = .ok (.iload_n 1, 1) := by decide +kernel
theorem dX11_notSizes_16 : decode cX11_notSizes 16 = .ok (.bipush 7, 2) := by decide +kernel
theorem dX11_notSizes_18 : decode cX11_notSizes 18 = .ok (.if_icmp .gt 14, 3) := by decide +kernel
theorem dX11_notSizes_21 : decode cX11_notSizes 21 = .ok (.iload_n 2, 1) := by decide +kernel
theorem dX11_notSizes_22 : decode cX11_notSizes 22 = .ok (.iconst 1, 1) := by decide +kernel
theorem dX11_notSizes_23 : decode cX11_notSizes 23 = .ok (.if_icmp .lt 9, 3) := by decide +kernel
theorem dX11_notSizes_26 : decode cX11_notSizes 26 = .ok (.iload_n 2, 1) := by decide +kernel
theorem dX11_notSizes_27 : decode cX11_notSizes 27 = .ok (.bipush 7, 2) := by decide +kernel
theorem dX11_notSizes_29 : decode cX11_notSizes 29 = .ok (.if_icmp .le 7, 3) := by decide +kernel
theorem dX11_notSizes_32 : decode cX11_notSizes 32 = .ok (.iconst 1, 1) := by decide +kernel
theorem dX11_notSizes_33 : decode cX11_notSizes 33 = .ok (.goto 4, 3) := by decide +kernel
theorem dX11_notSizes_36 : decode cX11_notSizes 36 = .ok (.iconst 0, 1) := by decide +kernel
theorem dX11_notSizes_37 : decode cX11_notSizes 37 = .ok (.ireturn, 1) := by decide +kernel
theorem dX11_refusalOfBytes_0 : decode cX11_refusalOfBytes 0 = .ok (.iload_n 1, 1) := by decide +kernel
theorem dX11_refusalOfBytes_1 : decode cX11_refusalOfBytes 1 = .ok (.invokestatic 95, 3) := by decide +kernel
theorem dX11_refusalOfBytes_4 : decode cX11_refusalOfBytes 4 = .ok (.ifCond .eq 5, 3) := by decide +kernel
theorem dX11_refusalOfBytes_7 : decode cX11_refusalOfBytes 7 = .ok (.iconst (-1), 1) := by decide +kernel
theorem dX11_refusalOfBytes_8 : decode cX11_refusalOfBytes 8 = .ok (.ireturn, 1) := by decide +kernel
theorem dX11_refusalOfBytes_9 : decode cX11_refusalOfBytes 9 = .ok (.aload_n 0, 1) := by decide +kernel
theorem dX11_refusalOfBytes_10 : decode cX11_refusalOfBytes 10 = .ok (.getfield 67, 3) := by decide +kernel
theorem dX11_refusalOfBytes_13 : decode cX11_refusalOfBytes 13 = .ok (.iload_n 1, 1) := by decide +kernel
theorem dX11_refusalOfBytes_14 : decode cX11_refusalOfBytes 14 = .ok (.aaload, 1) := by decide +kernel
theorem dX11_refusalOfBytes_15 : decode cX11_refusalOfBytes 15 = .ok (.invokevirtual 99, 3) := by decide +kernel
theorem dX11_refusalOfBytes_18 : decode cX11_refusalOfBytes 18 = .ok (.ifCond .eq 6, 3) := by decide +kernel
theorem dX11_refusalOfBytes_21 : decode cX11_refusalOfBytes 21 = .ok (.bipush (-11), 2) := by decide +kernel
theorem dX11_refusalOfBytes_23 : decode cX11_refusalOfBytes 23 = .ok (.ireturn, 1) := by decide +kernel
theorem dX11_refusalOfBytes_24 : decode cX11_refusalOfBytes 24 = .ok (.aload_n 0, 1) := by decide +kernel
theorem dX11_refusalOfBytes_25 : decode cX11_refusalOfBytes 25 = .ok (.getfield 67, 3) := by decide +kernel
theorem dX11_refusalOfBytes_28 : decode cX11_refusalOfBytes 28 = .ok (.iload_n 1, 1) := by decide +kernel
theorem dX11_refusalOfBytes_29 : decode cX11_refusalOfBytes 29 = .ok (.aaload, 1) := by decide +kernel
theorem dX11_refusalOfBytes_30 : decode cX11_refusalOfBytes 30 = .ok (.invokevirtual 102, 3) := by decide +kernel
theorem dX11_refusalOfBytes_33 : decode cX11_refusalOfBytes 33 = .ok (.ifCond .eq 7, 3) := by decide +kernel
theorem dX11_refusalOfBytes_36 : decode cX11_refusalOfBytes 36 = .ok (.iconst 0, 1) := by decide +kernel
theorem dX11_refusalOfBytes_37 : decode cX11_refusalOfBytes 37 = .ok (.goto 5, 3) := by decide +kernel
theorem dX11_refusalOfBytes_40 : decode cX11_refusalOfBytes 40 = .ok (.bipush (-12), 2) := by decide +kernel
theorem dX11_refusalOfBytes_42 : decode cX11_refusalOfBytes 42 = .ok (.ireturn, 1) := by decide +kernel
theorem dX11_refusalOfElement_0 : decode cX11_refusalOfElement 0 = .ok (.iload_n 1, 1) := by decide +kernel
theorem dX11_refusalOfElement_1 : decode cX11_refusalOfElement 1 = .ok (.invokestatic 95, 3) := by decide +kernel
theorem dX11_refusalOfElement_4 : decode cX11_refusalOfElement 4 = .ok (.ifCond .eq 5, 3) := by decide +kernel
theorem dX11_refusalOfElement_7 : decode cX11_refusalOfElement 7 = .ok (.iconst (-1), 1) := by decide +kernel
theorem dX11_refusalOfElement_8 : decode cX11_refusalOfElement 8 = .ok (.ireturn, 1) := by decide +kernel
theorem dX11_refusalOfElement_9 : decode cX11_refusalOfElement 9 = .ok (.aload_n 0, 1) := by decide +kernel
theorem dX11_refusalOfElement_10 : decode cX11_refusalOfElement 10 = .ok (.getfield 67, 3) := by decide +kernel
theorem dX11_refusalOfElement_13 : decode cX11_refusalOfElement 13 = .ok (.iload_n 1, 1) := by decide +kernel
theorem dX11_refusalOfElement_14 : decode cX11_refusalOfElement 14 = .ok (.aaload, 1) := by decide +kernel
theorem dX11_refusalOfElement_15 : decode cX11_refusalOfElement 15 = .ok (.invokevirtual 99, 3) := by decide +kernel
theorem dX11_refusalOfElement_18 : decode cX11_refusalOfElement 18 = .ok (.ifCond .eq 6, 3) := by decide +kernel
theorem dX11_refusalOfElement_21 : decode cX11_refusalOfElement 21 = .ok (.bipush (-11), 2) := by decide +kernel
theorem dX11_refusalOfElement_23 : decode cX11_refusalOfElement 23 = .ok (.ireturn, 1) := by decide +kernel
theorem dX11_refusalOfElement_24 : decode cX11_refusalOfElement 24 = .ok (.aload_n 0, 1) := by decide +kernel
theorem dX11_refusalOfElement_25 : decode cX11_refusalOfElement 25 = .ok (.getfield 67, 3) := by decide +kernel
theorem dX11_refusalOfElement_28 : decode cX11_refusalOfElement 28 = .ok (.iload_n 1, 1) := by decide +kernel
theorem dX11_refusalOfElement_29 : decode cX11_refusalOfElement 29 = .ok (.aaload, 1) := by decide +kernel
theorem dX11_refusalOfElement_30 : decode cX11_refusalOfElement 30 = .ok (.invokevirtual 356, 3) := by decide +kernel
theorem dX11_refusalOfElement_33 : decode cX11_refusalOfElement 33 = .ok (.ifCond .ne 6, 3) := by decide +kernel
theorem dX11_refusalOfElement_36 : decode cX11_refusalOfElement 36 = .ok (.bipush (-12), 2) := by decide +kernel
theorem dX11_refusalOfElement_38 : decode cX11_refusalOfElement 38 = .ok (.ireturn, 1) := by decide +kernel
theorem dX11_refusalOfElement_39 : decode cX11_refusalOfElement 39 = .ok (.aload_n 0, 1) := by decide +kernel
theorem dX11_refusalOfElement_40 : decode cX11_refusalOfElement 40 = .ok (.getfield 67, 3) := by decide +kernel
theorem dX11_refusalOfElement_43 : decode cX11_refusalOfElement 43 = .ok (.iload_n 1, 1) := by decide +kernel
theorem dX11_refusalOfElement_44 : decode cX11_refusalOfElement 44 = .ok (.aaload, 1) := by decide +kernel
theorem dX11_refusalOfElement_45 : decode cX11_refusalOfElement 45 = .ok (.iload_n 2, 1) := by decide +kernel
theorem dX11_refusalOfElement_46 : decode cX11_refusalOfElement 46 = .ok (.iconst 1, 1) := by decide +kernel
theorem dX11_refusalOfElement_47 : decode cX11_refusalOfElement 47 = .ok (.invokevirtual 362, 3) := by decide +kernel
theorem dX11_refusalOfElement_50 : decode cX11_refusalOfElement 50 = .ok (.ifCond .eq 7, 3) := by decide +kernel
theorem dX11_refusalOfElement_53 : decode cX11_refusalOfElement 53 = .ok (.iconst 0, 1) := by decide +kernel
theorem dX11_refusalOfElement_54 : decode cX11_refusalOfElement 54 = .ok (.goto 5, 3) := by decide +kernel
theorem dX11_refusalOfElement_57 : decode cX11_refusalOfElement 57 = .ok (.bipush (-13), 2) := by decide +kernel
theorem dX11_refusalOfElement_59 : decode cX11_refusalOfElement 59 = .ok (.ireturn, 1) := by decide +kernel
theorem dX11_addFrom_0 : decode cX11_addFrom 0 = .ok (.iconst 0, 1) := by decide +kernel
theorem dX11_addFrom_1 : decode cX11_addFrom 1 = .ok (.istore 4, 2) := by decide +kernel
theorem dX11_addFrom_3 : decode cX11_addFrom 3 = .ok (.iload_n 2, 1) := by decide +kernel
theorem dX11_addFrom_4 : decode cX11_addFrom 4 = .ok (.istore 5, 2) := by decide +kernel
theorem dX11_addFrom_6 : decode cX11_addFrom 6 = .ok (.iload 4, 2) := by decide +kernel
theorem dX11_addFrom_8 : decode cX11_addFrom 8 = .ok (.iload_n 3, 1) := by decide +kernel
theorem dX11_addFrom_9 : decode cX11_addFrom 9 = .ok (.if_icmp .ge 134, 3) := by decide +kernel
theorem dX11_addFrom_12 : decode cX11_addFrom 12 = .ok (.aload_n 0, 1) := by decide +kernel
theorem dX11_addFrom_13 : decode cX11_addFrom 13 = .ok (.getfield 10, 3) := by decide +kernel
theorem dX11_addFrom_16 : decode cX11_addFrom 16 = .ok (.invokevirtual 87, 3) := by decide +kernel
theorem dX11_addFrom_19 : decode cX11_addFrom 19 = .ok (.ifCond .ne 124, 3) := by decide +kernel
theorem dX11_addFrom_22 : decode cX11_addFrom 22 = .ok (.aload_n 1, 1) := by decide +kernel
theorem dX11_addFrom_23 : decode cX11_addFrom 23 = .ok (.iload 5, 2) := by decide +kernel
theorem dX11_addFrom_25 : decode cX11_addFrom 25 = .ok (.iconst 3, 1) := by decide +kernel
theorem dX11_addFrom_26 : decode cX11_addFrom 26 = .ok (.invokevirtual 362, 3) := by decide +kernel
theorem dX11_addFrom_29 : decode cX11_addFrom 29 = .ok (.ifCond .eq 114, 3) := by decide +kernel
theorem dX11_addFrom_32 : decode cX11_addFrom 32 = .ok (.aload_n 1, 1) := by decide +kernel
theorem dX11_addFrom_33 : decode cX11_addFrom 33 = .ok (.getfield 352, 3) := by decide +kernel
theorem dX11_addFrom_36 : decode cX11_addFrom 36 = .ok (.iload 5, 2) := by decide +kernel
theorem dX11_addFrom_38 : decode cX11_addFrom 38 = .ok (.laload, 1) := by decide +kernel
theorem dX11_addFrom_39 : decode cX11_addFrom 39 = .ok (.lstore 6, 2) := by decide +kernel
theorem dX11_addFrom_41 : decode cX11_addFrom 41 = .ok (.aload_n 1, 1) := by decide +kernel
theorem dX11_addFrom_42 : decode cX11_addFrom 42 = .ok (.getfield 352, 3) := by decide +kernel
theorem dX11_addFrom_45 : decode cX11_addFrom 45 = .ok (.iload 5, 2) := by decide +kernel
theorem dX11_addFrom_47 : decode cX11_addFrom 47 = .ok (.iconst 1, 1) := by decide +kernel
theorem dX11_addFrom_48 : decode cX11_addFrom 48 = .ok (.iadd, 1) := by decide +kernel
theorem dX11_addFrom_49 : decode cX11_addFrom 49 = .ok (.laload, 1) := by decide +kernel
theorem dX11_addFrom_50 : decode cX11_addFrom 50 = .ok (.lstore 8, 2) := by decide +kernel
theorem dX11_addFrom_52 : decode cX11_addFrom 52 = .ok (.aload_n 1, 1) := by decide +kernel
theorem dX11_addFrom_53 : decode cX11_addFrom 53 = .ok (.getfield 352, 3) := by decide +kernel
theorem dX11_addFrom_56 : decode cX11_addFrom 56 = .ok (.iload 5, 2) := by decide +kernel
theorem dX11_addFrom_58 : decode cX11_addFrom 58 = .ok (.iconst 2, 1) := by decide +kernel
theorem dX11_addFrom_59 : decode cX11_addFrom 59 = .ok (.iadd, 1) := by decide +kernel
theorem dX11_addFrom_60 : decode cX11_addFrom 60 = .ok (.laload, 1) := by decide +kernel
theorem dX11_addFrom_61 : decode cX11_addFrom 61 = .ok (.lstore 10, 2) := by decide +kernel
theorem dX11_addFrom_63 : decode cX11_addFrom 63 = .ok (.lload 6, 2) := by decide +kernel
theorem dX11_addFrom_65 : decode cX11_addFrom 65 = .ok (.lconst 0, 1) := by decide +kernel
theorem dX11_addFrom_66 : decode cX11_addFrom 66 = .ok (.lcmp, 1) := by decide +kernel
theorem dX11_addFrom_67 : decode cX11_addFrom 67 = .ok (.ifCond .lt 47, 3) := by decide +kernel
theorem dX11_addFrom_70 : decode cX11_addFrom 70 = .ok (.lload 6, 2) := by decide +kernel
theorem dX11_addFrom_72 : decode cX11_addFrom 72 = .ok (.ldc2_w 384, 3) := by decide +kernel
theorem dX11_addFrom_75 : decode cX11_addFrom 75 = .ok (.lcmp, 1) := by decide +kernel
theorem dX11_addFrom_76 : decode cX11_addFrom 76 = .ok (.ifCond .gt 38, 3) := by decide +kernel
theorem dX11_addFrom_79 : decode cX11_addFrom 79 = .ok (.lload 8, 2) := by decide +kernel
theorem dX11_addFrom_81 : decode cX11_addFrom 81 = .ok (.lconst 1, 1) := by decide +kernel
theorem dX11_addFrom_82 : decode cX11_addFrom 82 = .ok (.lcmp, 1) := by decide +kernel
theorem dX11_addFrom_83 : decode cX11_addFrom 83 = .ok (.ifCond .lt 31, 3) := by decide +kernel
theorem dX11_addFrom_86 : decode cX11_addFrom 86 = .ok (.lload 8, 2) := by decide +kernel
theorem dX11_addFrom_88 : decode cX11_addFrom 88 = .ok (.ldc2_w 384, 3) := by decide +kernel
theorem dX11_addFrom_91 : decode cX11_addFrom 91 = .ok (.lcmp, 1) := by decide +kernel
theorem dX11_addFrom_92 : decode cX11_addFrom 92 = .ok (.ifCond .gt 22, 3) := by decide +kernel
theorem dX11_addFrom_95 : decode cX11_addFrom 95 = .ok (.lload 10, 2) := by decide +kernel
theorem dX11_addFrom_97 : decode cX11_addFrom 97 = .ok (.lconst 0, 1) := by decide +kernel
theorem dX11_addFrom_98 : decode cX11_addFrom 98 = .ok (.lcmp, 1) := by decide +kernel
theorem dX11_addFrom_99 : decode cX11_addFrom 99 = .ok (.ifCond .lt 15, 3) := by decide +kernel
theorem dX11_addFrom_102 : decode cX11_addFrom 102 = .ok (.lload 10, 2) := by decide +kernel
theorem dX11_addFrom_104 : decode cX11_addFrom 104 = .ok (.getstatic 83, 3) := by decide +kernel
theorem dX11_addFrom_107 : decode cX11_addFrom 107 = .ok (.iconst 2, 1) := by decide +kernel
theorem dX11_addFrom_108 : decode cX11_addFrom 108 = .ok (.iaload, 1) := by decide +kernel
theorem dX11_addFrom_109 : decode cX11_addFrom 109 = .ok (.i2l, 1) := by decide +kernel
theorem dX11_addFrom_110 : decode cX11_addFrom 110 = .ok (.lcmp, 1) := by decide +kernel
theorem dX11_addFrom_111 : decode cX11_addFrom 111 = .ok (.ifCond .le 6, 3) := by decide +kernel
theorem dX11_addFrom_114 : decode cX11_addFrom 114 = .ok (.iload 4, 2) := by decide +kernel
theorem dX11_addFrom_116 : decode cX11_addFrom 116 = .ok (.ireturn, 1) := by decide +kernel
theorem dX11_addFrom_117 : decode cX11_addFrom 117 = .ok (.aload_n 0, 1) := by decide +kernel
theorem dX11_addFrom_118 : decode cX11_addFrom 118 = .ok (.getfield 10, 3) := by decide +kernel
theorem dX11_addFrom_121 : decode cX11_addFrom 121 = .ok (.lload 6, 2) := by decide +kernel
theorem dX11_addFrom_123 : decode cX11_addFrom 123 = .ok (.l2i, 1) := by decide +kernel
theorem dX11_addFrom_124 : decode cX11_addFrom 124 = .ok (.lload 8, 2) := by decide +kernel
theorem dX11_addFrom_126 : decode cX11_addFrom 126 = .ok (.l2i, 1) := by decide +kernel
theorem dX11_addFrom_127 : decode cX11_addFrom 127 = .ok (.lload 10, 2) := by decide +kernel
theorem dX11_addFrom_129 : decode cX11_addFrom 129 = .ok (.l2i, 1) := by decide +kernel
theorem dX11_addFrom_130 : decode cX11_addFrom 130 = .ok (.invokevirtual 91, 3) := by decide +kernel
theorem dX11_addFrom_133 : decode cX11_addFrom 133 = .ok (.pop, 1) := by decide +kernel
theorem dX11_addFrom_134 : decode cX11_addFrom 134 = .ok (.iinc 4 1, 3) := by decide +kernel
theorem dX11_addFrom_137 : decode cX11_addFrom 137 = .ok (.iinc 5 3, 3) := by decide +kernel
theorem dX11_addFrom_140 : decode cX11_addFrom 140 = .ok (.goto (-134), 3) := by decide +kernel
theorem dX11_addFrom_143 : decode cX11_addFrom 143 = .ok (.iload 4, 2) := by decide +kernel
theorem dX11_addFrom_145 : decode cX11_addFrom 145 = .ok (.ireturn, 1) := by decide +kernel
theorem dX11_thinkThrough_0 : decode cX11_thinkThrough 0 = .ok (.aload_n 0, 1) := by decide +kernel
theorem dX11_thinkThrough_1 : decode cX11_thinkThrough 1 = .ok (.getfield 19, 3) := by decide +kernel
theorem dX11_thinkThrough_4 : decode cX11_thinkThrough 4 = .ok (.aload_n 0, 1) := by decide +kernel
theorem dX11_thinkThrough_5 : decode cX11_thinkThrough 5 = .ok (.getfield 10, 3) := by decide +kernel
theorem dX11_thinkThrough_8 : decode cX11_thinkThrough 8 = .ok (.invokevirtual 146, 3) := by decide +kernel
theorem dX11_thinkThrough_11 : decode cX11_thinkThrough 11 = .ok (.aload_n 0, 1) := by decide +kernel
theorem dX11_thinkThrough_12 : decode cX11_thinkThrough 12 = .ok (.getfield 19, 3) := by decide +kernel
theorem dX11_thinkThrough_15 : decode cX11_thinkThrough 15 = .ok (.aload_n 0, 1) := by decide +kernel
theorem dX11_thinkThrough_16 : decode cX11_thinkThrough 16 = .ok (.getfield 10, 3) := by decide +kernel
theorem dX11_thinkThrough_19 : decode cX11_thinkThrough 19 = .ok (.aload_n 0, 1) := by decide +kernel
theorem dX11_thinkThrough_20 : decode cX11_thinkThrough 20 = .ok (.getfield 67, 3) := by decide +kernel
theorem dX11_thinkThrough_23 : decode cX11_thinkThrough 23 = .ok (.iload_n 1, 1) := by decide +kernel
theorem dX11_thinkThrough_24 : decode cX11_thinkThrough 24 = .ok (.aaload, 1) := by decide +kernel
theorem dX11_thinkThrough_25 : decode cX11_thinkThrough 25 = .ok (.invokevirtual 201, 3) := by decide +kernel
theorem dX11_thinkThrough_28 : decode cX11_thinkThrough 28 = .ok (.return_, 1) := by decide +kernel
theorem dX12_init_0 : decode cX12_init 0 = .ok (.aload_n 0, 1) := by decide +kernel
theorem dX12_init_1 : decode cX12_init 1 = .ok (.invokespecial 1, 3) := by decide +kernel
theorem dX12_init_4 : decode cX12_init 4 = .ok (.aload_n 0, 1) := by decide +kernel
theorem dX12_init_5 : decode cX12_init 5 = .ok (.bipush 7, 2) := by decide +kernel
theorem dX12_init_7 : decode cX12_init 7 = .ok (.newarray .int, 2) := by decide +kernel
theorem dX12_init_9 : decode cX12_init 9 = .ok (.putfield 7, 3) := by decide +kernel
theorem dX12_init_12 : decode cX12_init 12 = .ok (.aload_n 0, 1) := by decide +kernel
theorem dX12_init_13 : decode cX12_init 13 = .ok (.bipush 7, 2) := by decide +kernel
theorem dX12_init_15 : decode cX12_init 15 = .ok (.newarray .int, 2) := by decide +kernel
theorem dX12_init_17 : decode cX12_init 17 = .ok (.putfield 13, 3) := by decide +kernel
theorem dX12_init_20 : decode cX12_init 20 = .ok (.aload_n 0, 1) := by decide +kernel
theorem dX12_init_21 : decode cX12_init 21 = .ok (.bipush 7, 2) := by decide +kernel
theorem dX12_init_23 : decode cX12_init 23 = .ok (.newarray .int, 2) := by decide +kernel
theorem dX12_init_25 : decode cX12_init 25 = .ok (.putfield 16, 3) := by decide +kernel
theorem dX12_init_28 : decode cX12_init 28 = .ok (.aload_n 0, 1) := by decide +kernel
theorem dX12_init_29 : decode cX12_init 29 = .ok (.bipush 7, 2) := by decide +kernel
theorem dX12_init_31 : decode cX12_init 31 = .ok (.newarray .int, 2) := by decide +kernel
theorem dX12_init_33 : decode cX12_init 33 = .ok (.putfield 19, 3) := by decide +kernel
theorem dX12_init_36 : decode cX12_init 36 = .ok (.aload_n 0, 1) := by decide +kernel
theorem dX12_init_37 : decode cX12_init 37 = .ok (.bipush 10, 2) := by decide +kernel
theorem dX12_init_39 : decode cX12_init 39 = .ok (.newarray .int, 2) := by decide +kernel
theorem dX12_init_41 : decode cX12_init 41 = .ok (.dup, 1) := by decide +kernel
theorem dX12_init_42 : decode cX12_init 42 = .ok (.iconst 0, 1) := by decide +kernel
theorem dX12_init_43 : decode cX12_init 43 = .ok (.bipush 20, 2) := by decide +kernel
theorem dX12_init_45 : decode cX12_init 45 = .ok (.iastore, 1) := by decide +kernel
theorem dX12_init_46 : decode cX12_init 46 = .ok (.dup, 1) := by decide +kernel
theorem dX12_init_47 : decode cX12_init 47 = .ok (.iconst 1, 1) := by decide +kernel
theorem dX12_init_48 : decode cX12_init 48 = .ok (.iconst 1, 1) := by decide +kernel
theorem dX12_init_49 : decode cX12_init 49 = .ok (.iastore, 1) := by decide +kernel
theorem dX12_init_50 : decode cX12_init 50 = .ok (.dup, 1) := by decide +kernel
theorem dX12_init_51 : decode cX12_init 51 = .ok (.iconst 2, 1) := by decide +kernel
theorem dX12_init_52 : decode cX12_init 52 = .ok (.bipush 9, 2) := by decide +kernel
theorem dX12_init_54 : decode cX12_init 54 = .ok (.iastore, 1) := by decide +kernel
theorem dX12_init_55 : decode cX12_init 55 = .ok (.dup, 1) := by decide +kernel
theorem dX12_init_56 : decode cX12_init 56 = .ok (.iconst 3, 1) := by decide +kernel
theorem dX12_init_57 : decode cX12_init 57 = .ok (.iconst 4, 1) := by decide +kernel
theorem dX12_init_58 : decode cX12_init 58 = .ok (.iastore, 1) := by decide +kernel
theorem dX12_init_59 : decode cX12_init 59 = .ok (.dup, 1) := by decide +kernel
theorem dX12_init_60 : decode cX12_init 60 = .ok (.iconst 4, 1) := by decide +kernel
theorem dX12_init_61 : decode cX12_init 61 = .ok (.iconst 3, 1) := by decide +kernel
theorem dX12_init_62 : decode cX12_init 62 = .ok (.iastore, 1) := by decide +kernel
theorem dX12_init_63 : decode cX12_init 63 = .ok (.dup, 1) := by decide +kernel
theorem dX12_init_64 : decode cX12_init 64 = .ok (.iconst 5, 1) := by decide +kernel
theorem dX12_init_65 : decode cX12_init 65 = .ok (.iconst 3, 1) := by decide +kernel
theorem dX12_init_66 : decode cX12_init 66 = .ok (.iastore, 1) := by decide +kernel
theorem dX12_init_67 : decode cX12_init 67 = .ok (.dup, 1) := by decide +kernel
theorem dX12_init_68 : decode cX12_init 68 = .ok (.bipush 6, 2) := by decide +kernel
theorem dX12_init_70 : decode cX12_init 70 = .ok (.iconst 3, 1) := by decide +kernel
theorem dX12_init_71 : decode cX12_init 71 = .ok (.iastore, 1) := by decide +kernel
theorem dX12_init_72 : decode cX12_init 72 = .ok (.dup, 1) := by decide +kernel
theorem dX12_init_73 : decode cX12_init 73 = .ok (.bipush 7, 2) := by decide +kernel
theorem dX12_init_75 : decode cX12_init 75 = .ok (.iconst 1, 1) := by decide +kernel
theorem dX12_init_76 : decode cX12_init 76 = .ok (.iastore, 1) := by decide +kernel
theorem dX12_init_77 : decode cX12_init 77 = .ok (.dup, 1) := by decide +kernel
theorem dX12_init_78 : decode cX12_init 78 = .ok (.bipush 8, 2) := by decide +kernel
theorem dX12_init_80 : decode cX12_init 80 = .ok (.iconst 1, 1) := by decide +kernel
theorem dX12_init_81 : decode cX12_init 81 = .ok (.iastore, 1) := by decide +kernel
theorem dX12_init_82 : decode cX12_init 82 = .ok (.dup, 1) := by decide +kernel
theorem dX12_init_83 : decode cX12_init 83 = .ok (.bipush 9, 2) := by decide +kernel
theorem dX12_init_85 : decode cX12_init 85 = .ok (.iconst 2, 1) := by decide +kernel
theorem dX12_init_86 : decode cX12_init 86 = .ok (.iastore, 1) := by decide +kernel
theorem dX12_init_87 : decode cX12_init 87 = .ok (.putfield 22, 3) := by decide +kernel
theorem dX12_init_90 : decode cX12_init 90 = .ok (.aload_n 0, 1) := by decide +kernel
theorem dX12_init_91 : decode cX12_init 91 = .ok (.bipush 40, 2) := by decide +kernel
theorem dX12_init_93 : decode cX12_init 93 = .ok (.newarray .int, 2) := by decide +kernel
theorem dX12_init_95 : decode cX12_init 95 = .ok (.putfield 25, 3) := by decide +kernel
theorem dX12_init_98 : decode cX12_init 98 = .ok (.aload_n 0, 1) := by decide +kernel
theorem dX12_init_99 : decode cX12_init 99 = .ok (.bipush 40, 2) := by decide +kernel
theorem dX12_init_101 : decode cX12_init 101 = .ok (.newarray .int, 2) := by decide +kernel
theorem dX12_init_103 : decode cX12_init 103 = .ok (.putfield 28, 3) := by decide +kernel
theorem dX12_init_106 : decode cX12_init 106 = .ok (.aload_n 0, 1) := by decide +kernel
theorem dX12_init_107 : decode cX12_init 107 = .ok (.bipush 40, 2) := by decide +kernel
theorem dX12_init_109 : decode cX12_init 109 = .ok (.newarray .int, 2) := by decide +kernel
theorem dX12_init_111 : decode cX12_init 111 = .ok (.putfield 31, 3) := by decide +kernel
theorem dX12_init_114 : decode cX12_init 114 = .ok (.aload_n 0, 1) := by decide +kernel
theorem dX12_init_115 : decode cX12_init 115 = .ok (.bipush 40, 2) := by decide +kernel
theorem dX12_init_117 : decode cX12_init 117 = .ok (.newarray .int, 2) := by decide +kernel
theorem dX12_init_119 : decode cX12_init 119 = .ok (.putfield 34, 3) := by decide +kernel
theorem dX12_init_122 : decode cX12_init 122 = .ok (.aload_n 0, 1) := by decide +kernel
theorem dX12_init_123 : decode cX12_init 123 = .ok (.bipush 120, 2) := by decide +kernel
theorem dX12_init_125 : decode cX12_init 125 = .ok (.newarray .byte, 2) := by decide +kernel
theorem dX12_init_127 : decode cX12_init 127 = .ok (.putfield 37, 3) := by decide +kernel
theorem dX12_init_130 : decode cX12_init 130 = .ok (.aload_n 0, 1) := by decide +kernel
theorem dX12_init_131 : decode cX12_init 131 = .ok (.sipush 260, 3) := by decide +kernel
theorem dX12_init_134 : decode cX12_init 134 = .ok (.newarray .byte, 2) := by decide +kernel
theorem dX12_init_136 : decode cX12_init 136 = .ok (.putfield 41, 3) := by decide +kernel
theorem dX12_init_139 : decode cX12_init 139 = .ok (.aload_n 0, 1) := by decide +kernel
theorem dX12_init_140 : decode cX12_init 140 = .ok (.sipush 260, 3) := by decide +kernel
theorem dX12_init_143 : decode cX12_init 143 = .ok (.newarray .int, 2) := by decide +kernel
theorem dX12_init_145 : decode cX12_init 145 = .ok (.putfield 44, 3) := by decide +kernel
theorem dX12_init_148 : decode cX12_init 148 = .ok (.aload_n 0, 1) := by decide +kernel
theorem dX12_init_149 : decode cX12_init 149 = .ok (.iconst 2, 1) := by decide +kernel
theorem dX12_init_150 : decode cX12_init 150 = .ok (.newarray .int, 2) := by decide +kernel
theorem dX12_init_152 : decode cX12_init 152 = .ok (.putfield 47, 3) := by decide +kernel
theorem dX12_init_155 : decode cX12_init 155 = .ok (.aload_n 0, 1) := by decide +kernel
theorem dX12_init_156 : decode cX12_init 156 = .ok (.bipush 122, 2) := by decide +kernel
theorem dX12_init_158 : decode cX12_init 158 = .ok (.newarray .short, 2) := by decide +kernel
theorem dX12_init_160 : decode cX12_init 160 = .ok (.putfield 50, 3) := by decide +kernel
theorem dX12_init_163 : decode cX12_init 163 = .ok (.aload_n 0, 1) := by decide +kernel
theorem dX12_init_164 : decode cX12_init 164 = .ok (.bipush 122, 2) := by decide +kernel
theorem dX12_init_166 : decode cX12_init 166 = .ok (.newarray .short, 2) := by decide +kernel
theorem dX12_init_168 : decode cX12_init 168 = .ok (.putfield 54, 3) := by decide +kernel
theorem dX12_init_171 : decode cX12_init 171 = .ok (.aload_n 0, 1) := by decide +kernel
theorem dX12_init_172 : decode cX12_init 172 = .ok (.bipush 6, 2) := by decide +kernel
theorem dX12_init_174 : decode cX12_init 174 = .ok (.newarray .int, 2) := by decide +kernel
theorem dX12_init_176 : decode cX12_init 176 = .ok (.putfield 57, 3) := by decide +kernel
theorem dX12_init_179 : decode cX12_init 179 = .ok (.aload_n 0, 1) := by decide +kernel
theorem dX12_init_180 : decode cX12_init 180 = .ok (.sipush 130, 3) := by decide +kernel
theorem dX12_init_183 : decode cX12_init 183 = .ok (.newarray .int, 2) := by decide +kernel
theorem dX12_init_185 : decode cX12_init 185 = .ok (.putfield 60, 3) := by decide +kernel
theorem dX12_init_188 : decode cX12_init 188 = .ok (.aload_n 0, 1) := by decide +kernel
theorem dX12_init_189 : decode cX12_init 189 = .ok (.bipush 7, 2) := by decide +kernel
theorem dX12_init_191 : decode cX12_init 191 = .ok (.newarray .int, 2) := by decide +kernel
theorem dX12_init_193 : decode cX12_init 193 = .ok (.putfield 63, 3) := by decide +kernel
theorem dX12_init_196 : decode cX12_init 196 = .ok (.aload_n 0, 1) := by decide +kernel
theorem dX12_init_197 : decode cX12_init 197 = .ok (.bipush 7, 2) := by decide +kernel
theorem dX12_init_199 : decode cX12_init 199 = .ok (.newarray .int, 2) := by decide +kernel
theorem dX12_init_201 : decode cX12_init 201 = .ok (.putfield 66, 3) := by decide +kernel
theorem dX12_init_204 : decode cX12_init 204 = .ok (.aload_n 0, 1) := by decide +kernel
theorem dX12_init_205 : decode cX12_init 205 = .ok (.iconst 5, 1) := by decide +kernel
theorem dX12_init_206 : decode cX12_init 206 = .ok (.newarray .int, 2) := by decide +kernel
theorem dX12_init_208 : decode cX12_init 208 = .ok (.putfield 69, 3) := by decide +kernel
theorem dX12_init_211 : decode cX12_init 211 = .ok (.aload_n 0, 1) := by decide +kernel
theorem dX12_init_212 : decode cX12_init 212 = .ok (.iconst 5, 1) := by decide +kernel
theorem dX12_init_213 : decode cX12_init 213 = .ok (.newarray .int, 2) := by decide +kernel
theorem dX12_init_215 : decode cX12_init 215 = .ok (.putfield 72, 3) := by decide +kernel
theorem dX12_init_218 : decode cX12_init 218 = .ok (.aload_n 0, 1) := by decide +kernel
theorem dX12_init_219 : decode cX12_init 219 = .ok (.sipush 429, 3) := by decide +kernel
theorem dX12_init_222 : decode cX12_init 222 = .ok (.newarray .int, 2) := by decide +kernel
theorem dX12_init_224 : decode cX12_init 224 = .ok (.putfield 75, 3) := by decide +kernel
theorem dX12_init_227 : decode cX12_init 227 = .ok (.aload_n 0, 1) := by decide +kernel
theorem dX12_init_228 : decode cX12_init 228 = .ok (.sipush 429, 3) := by decide +kernel
theorem dX12_init_231 : decode cX12_init 231 = .ok (.newarray .int, 2) := by decide +kernel
theorem dX12_init_233 : decode cX12_init 233 = .ok (.putfield 78, 3) := by decide +kernel
theorem dX12_init_236 : decode cX12_init 236 = .ok (.aload_n 0, 1) := by decide +kernel
theorem dX12_init_237 : decode cX12_init 237 = .ok (.iconst 2, 1) := by decide +kernel
theorem dX12_init_238 : decode cX12_init 238 = .ok (.newarray .int, 2) := by decide +kernel
theorem dX12_init_240 : decode cX12_init 240 = .ok (.dup, 1) := by decide +kernel
theorem dX12_init_241 : decode cX12_init 241 = .ok (.iconst 0, 1) := by decide +kernel
theorem dX12_init_242 : decode cX12_init 242 = .ok (.iconst 0, 1) := by decide +kernel
theorem dX12_init_243 : decode cX12_init 243 = .ok (.iastore, 1) := by decide +kernel
theorem dX12_init_244 : decode cX12_init 244 = .ok (.dup, 1) := by decide +kernel
theorem dX12_init_245 : decode cX12_init 245 = .ok (.iconst 1, 1) := by decide +kernel
theorem dX12_init_246 : decode cX12_init 246 = .ok (.iconst 0, 1) := by decide +kernel
theorem dX12_init_247 : decode cX12_init 247 = .ok (.iastore, 1) := by decide +kernel
theorem dX12_init_248 : decode cX12_init 248 = .ok (.putfield 81, 3) := by decide +kernel
theorem dX12_init_251 : decode cX12_init 251 = .ok (.aload_n 0, 1) := by decide +kernel
theorem dX12_init_252 : decode cX12_init 252 = .ok (.iconst 2, 1) := by decide +kernel
theorem dX12_init_253 : decode cX12_init 253 = .ok (.newarray .int, 2) := by decide +kernel
theorem dX12_init_255 : decode cX12_init 255 = .ok (.dup, 1) := by decide +kernel
theorem dX12_init_256 : decode cX12_init 256 = .ok (.iconst 0, 1) := by decide +kernel
theorem dX12_init_257 : decode cX12_init 257 = .ok (.iconst 0, 1) := by decide +kernel
theorem dX12_init_258 : decode cX12_init 258 = .ok (.iastore, 1) := by decide +kernel
theorem dX12_init_259 : decode cX12_init 259 = .ok (.dup, 1) := by decide +kernel
theorem dX12_init_260 : decode cX12_init 260 = .ok (.iconst 1, 1) := by decide +kernel
theorem dX12_init_261 : decode cX12_init 261 = .ok (.iconst 0, 1) := by decide +kernel
theorem dX12_init_262 : decode cX12_init 262 = .ok (.iastore, 1) := by decide +kernel
theorem dX12_init_263 : decode cX12_init 263 = .ok (.putfield 84, 3) := by decide +kernel
theorem dX12_init_266 : decode cX12_init 266 = .ok (.aload_n 0, 1) := by decide +kernel
theorem dX12_init_267 : decode cX12_init 267 = .ok (.bipush 14, 2) := by decide +kernel
theorem dX12_init_269 : decode cX12_init 269 = .ok (.newarray .int, 2) := by decide +kernel
theorem dX12_init_271 : decode cX12_init 271 = .ok (.putfield 87, 3) := by decide +kernel
theorem dX12_init_274 : decode cX12_init 274 = .ok (.aload_n 0, 1) := by decide +kernel
theorem dX12_init_275 : decode cX12_init 275 = .ok (.iconst 2, 1) := by decide +kernel
theorem dX12_init_276 : decode cX12_init 276 = .ok (.newarray .int, 2) := by decide +kernel
theorem dX12_init_278 : decode cX12_init 278 = .ok (.dup, 1) := by decide +kernel
theorem dX12_init_279 : decode cX12_init 279 = .ok (.iconst 0, 1) := by decide +kernel
theorem dX12_init_280 : decode cX12_init 280 = .ok (.iconst 0, 1) := by decide +kernel
theorem dX12_init_281 : decode cX12_init 281 = .ok (.iastore, 1) := by decide +kernel
theorem dX12_init_282 : decode cX12_init 282 = .ok (.dup, 1) := by decide +kernel
theorem dX12_init_283 : decode cX12_init 283 = .ok (.iconst 1, 1) := by decide +kernel
theorem dX12_init_284 : decode cX12_init 284 = .ok (.iconst 0, 1) := by decide +kernel
theorem dX12_init_285 : decode cX12_init 285 = .ok (.iastore, 1) := by decide +kernel
theorem dX12_init_286 : decode cX12_init 286 = .ok (.putfield 90, 3) := by decide +kernel
theorem dX12_init_289 : decode cX12_init 289 = .ok (.aload_n 0, 1) := by decide +kernel
theorem dX12_init_290 : decode cX12_init 290 = .ok (.iconst 5, 1) := by decide +kernel
theorem dX12_init_291 : decode cX12_init 291 = .ok (.newarray .int, 2) := by decide +kernel
theorem dX12_init_293 : decode cX12_init 293 = .ok (.putfield 93, 3) := by decide +kernel
theorem dX12_init_296 : decode cX12_init 296 = .ok (.aload_n 0, 1) := by decide +kernel
theorem dX12_init_297 : decode cX12_init 297 = .ok (.bipush 7, 2) := by decide +kernel
theorem dX12_init_299 : decode cX12_init 299 = .ok (.newarray .int, 2) := by decide +kernel
theorem dX12_init_301 : decode cX12_init 301 = .ok (.putfield 96, 3) := by decide +kernel
theorem dX12_init_304 : decode cX12_init 304 = .ok (.aload_n 0, 1) := by decide +kernel
theorem dX12_init_305 : decode cX12_init 305 = .ok (.iconst 5, 1) := by decide +kernel
theorem dX12_init_306 : decode cX12_init 306 = .ok (.newarray .int, 2) := by decide +kernel
theorem dX12_init_308 : decode cX12_init 308 = .ok (.putfield 99, 3) := by decide +kernel
theorem dX12_init_311 : decode cX12_init 311 = .ok (.aload_n 0, 1) := by decide +kernel
theorem dX12_init_312 : decode cX12_init 312 = .ok (.bipush 50, 2) := by decide +kernel
theorem dX12_init_314 : decode cX12_init 314 = .ok (.newarray .int, 2) := by decide +kernel
theorem dX12_init_316 : decode cX12_init 316 = .ok (.putfield 102, 3) := by decide +kernel
theorem dX12_init_319 : decode cX12_init 319 = .ok (.aload_n 0, 1) := by decide +kernel
theorem dX12_init_320 : decode cX12_init 320 = .ok (.bipush 24, 2) := by decide +kernel
theorem dX12_init_322 : decode cX12_init 322 = .ok (.newarray .int, 2) := by decide +kernel
theorem dX12_init_324 : decode cX12_init 324 = .ok (.putfield 105, 3) := by decide +kernel
theorem dX12_init_327 : decode cX12_init 327 = .ok (.aload_n 0, 1) := by decide +kernel
theorem dX12_init_328 : decode cX12_init 328 = .ok (.bipush 6, 2) := by decide +kernel
theorem dX12_init_330 : decode cX12_init 330 = .ok (.newarray .int, 2) := by decide +kernel
theorem dX12_init_332 : decode cX12_init 332 = .ok (.dup, 1) := by decide +kernel
theorem dX12_init_333 : decode cX12_init 333 = .ok (.iconst 0, 1) := by decide +kernel
theorem dX12_init_334 : decode cX12_init 334 = .ok (.iconst (-1), 1) := by decide +kernel
theorem dX12_init_335 : decode cX12_init 335 = .ok (.iastore, 1) := by decide +kernel
theorem dX12_init_336 : decode cX12_init 336 = .ok (.dup, 1) := by decide +kernel
theorem dX12_init_337 : decode cX12_init 337 = .ok (.iconst 1, 1) := by decide +kernel
theorem dX12_init_338 : decode cX12_init 338 = .ok (.iconst (-1), 1) := by decide +kernel
theorem dX12_init_339 : decode cX12_init 339 = .ok (.iastore, 1) := by decide +kernel
theorem dX12_init_340 : decode cX12_init 340 = .ok (.dup, 1) := by decide +kernel
theorem dX12_init_341 : decode cX12_init 341 = .ok (.iconst 2, 1) := by decide +kernel
theorem dX12_init_342 : decode cX12_init 342 = .ok (.iconst (-1), 1) := by decide +kernel
theorem dX12_init_343 : decode cX12_init 343 = .ok (.iastore, 1) := by decide +kernel
theorem dX12_init_344 : decode cX12_init 344 = .ok (.dup, 1) := by decide +kernel
theorem dX12_init_345 : decode cX12_init 345 = .ok (.iconst 3, 1) := by decide +kernel
theorem dX12_init_346 : decode cX12_init 346 = .ok (.iconst (-1), 1) := by decide +kernel
theorem dX12_init_347 : decode cX12_init 347 = .ok (.iastore, 1) := by decide +kernel
theorem dX12_init_348 : decode cX12_init 348 = .ok (.dup, 1) := by decide +kernel
theorem dX12_init_349 : decode cX12_init 349 = .ok (.iconst 4, 1) := by decide +kernel
theorem dX12_init_350 : decode cX12_init 350 = .ok (.iconst (-1), 1) := by decide +kernel
theorem dX12_init_351 : decode cX12_init 351 = .ok (.iastore, 1) := by decide +kernel
theorem dX12_init_352 : decode cX12_init 352 = .ok (.dup, 1) := by decide +kernel
theorem dX12_init_353 : decode cX12_init 353 = .ok (.iconst 5, 1) := by decide +kernel
theorem dX12_init_354 : decode cX12_init 354 = .ok (.iconst (-1), 1) := by decide +kernel
theorem dX12_init_355 : decode cX12_init 355 = .ok (.iastore, 1) := by decide +kernel
theorem dX12_init_356 : decode cX12_init 356 = .ok (.putfield 108, 3) := by decide +kernel
theorem dX12_init_359 : decode cX12_init 359 = .ok (.aload_n 0, 1) := by decide +kernel
theorem dX12_init_360 : decode cX12_init 360 = .ok (.bipush 6, 2) := by decide +kernel
theorem dX12_init_362 : decode cX12_init 362 = .ok (.newarray .int, 2) := by decide +kernel
theorem dX12_init_364 : decode cX12_init 364 = .ok (.putfield 111, 3) := by decide +kernel
theorem dX12_init_367 : decode cX12_init 367 = .ok (.aload_n 0, 1) := by decide +kernel
theorem dX12_init_368 : decode cX12_init 368 = .ok (.sipush 360, 3) := by decide +kernel
theorem dX12_init_371 : decode cX12_init 371 = .ok (.newarray .long, 2) := by decide +kernel
theorem dX12_init_373 : decode cX12_init 373 = .ok (.putfield 114, 3) := by decide +kernel
theorem dX12_init_376 : decode cX12_init 376 = .ok (.aload_n 0, 1) := by decide +kernel
theorem dX12_init_377 : decode cX12_init 377 = .ok (.bipush 60, 2) := by decide +kernel
theorem dX12_init_379 : decode cX12_init 379 = .ok (.newarray .long, 2) := by decide +kernel
theorem dX12_init_381 : decode cX12_init 381 = .ok (.putfield 118, 3) := by decide +kernel
theorem dX12_init_384 : decode cX12_init 384 = .ok (.return_, 1) := by decide +kernel
theorem dX12_in_0 : decode cX12_in 0 = .ok (.iload_n 0, 1) := by decide +kernel
theorem dX12_in_1 : decode cX12_in 1 = .ok (.iload_n 1, 1) := by decide +kernel
theorem dX12_in_2 : decode cX12_in 2 = .ok (.if_icmp .lt 12, 3) := by decide +kernel
theorem dX12_in_5 : decode cX12_in 5 = .ok (.iload_n 0, 1) := by decide +kernel
theorem dX12_in_6 : decode cX12_in 6 = .ok (.iload_n 2, 1) := by decide +kernel
theorem dX12_in_7 : decode cX12_in 7 = .ok (.if_icmp .gt 7, 3) := by decide +kernel
theorem dX12_in_10 : decode cX12_in 10 = .ok (.iconst 1, 1) := by decide +kernel
theorem dX12_in_11 : decode cX12_in 11 = .ok (.goto 4, 3) := by decide +kernel
theorem dX12_in_14 : decode cX12_in 14 = .ok (.iconst 0, 1) := by decide +kernel
theorem dX12_in_15 : decode cX12_in 15 = .ok (.ireturn, 1) := by decide +kernel
theorem dX12_apart_0 : decode cX12_apart 0 = .ok (.iload_n 0, 1) := by decide +kernel
theorem dX12_apart_1 : decode cX12_apart 1 = .ok (.iload_n 1, 1) := by decide +kernel
theorem dX12_apart_2 : decode cX12_apart 2 = .ok (.if_icmp .ge 9, 3) := by decide +kernel
theorem dX12_apart_5 : decode cX12_apart 5 = .ok (.iload_n 1, 1) := by decide +kernel
theorem dX12_apart_6 : decode cX12_apart 6 = .ok (.iload_n 0, 1) := by decide +kernel
theorem dX12_apart_7 : decode cX12_apart 7 = .ok (.isub, 1) := by decide +kernel
theorem dX12_apart_8 : decode cX12_apart 8 = .ok (.goto 6, 3) := by decide +kernel
theorem dX12_apart_11 : decode cX12_apart 11 = .ok (.iload_n 0, 1) := by decide +kernel
theorem dX12_apart_12 : decode cX12_apart 12 = .ok (.iload_n 1, 1) := by decide +kernel
theorem dX12_apart_13 : decode cX12_apart 13 = .ok (.isub, 1) := by decide +kernel
theorem dX12_apart_14 : decode cX12_apart 14 = .ok (.ireturn, 1) := by decide +kernel
theorem dX12_bitsOf_0 : decode cX12_bitsOf 0 = .ok (.iconst 0, 1) := by decide +kernel
theorem dX12_bitsOf_1 : decode cX12_bitsOf 1 = .ok (.istore_n 1, 1) := by decide +kernel
theorem dX12_bitsOf_2 : decode cX12_bitsOf 2 = .ok (.iload_n 0, 1) := by decide +kernel
theorem dX12_bitsOf_3 : decode cX12_bitsOf 3 = .ok (.istore_n 2, 1) := by decide +kernel
theorem dX12_bitsOf_4 : decode cX12_bitsOf 4 = .ok (.iload_n 2, 1) := by decide +kernel
theorem dX12_bitsOf_5 : decode cX12_bitsOf 5 = .ok (.ifCond .eq 15, 3) := by decide +kernel
theorem dX12_bitsOf_8 : decode cX12_bitsOf 8 = .ok (.iinc 1 1, 3) := by decide +kernel
theorem dX12_bitsOf_11 : decode cX12_bitsOf 11 = .ok (.iload_n 2, 1) := by decide +kernel
theorem dX12_bitsOf_12 : decode cX12_bitsOf 12 = .ok (.iload_n 2, 1) := by decide +kernel
theorem dX12_bitsOf_13 : decode cX12_bitsOf 13 = .ok (.iconst 1, 1) := by decide +kernel
theorem dX12_bitsOf_14 : decode cX12_bitsOf 14 = .ok (.isub, 1) := by decide +kernel
theorem dX12_bitsOf_15 : decode cX12_bitsOf 15 = .ok (.iand, 1) := by decide +kernel
theorem dX12_bitsOf_16 : decode cX12_bitsOf 16 = .ok (.istore_n 2, 1) := by decide +kernel
theorem dX12_bitsOf_17 : decode cX12_bitsOf 17 = .ok (.goto (-13), 3) := by decide +kernel
theorem dX12_bitsOf_20 : decode cX12_bitsOf 20 = .ok (.iload_n 1, 1) := by decide +kernel
theorem dX12_bitsOf_21 : decode cX12_bitsOf 21 = .ok (.ireturn, 1) := by decide +kernel
theorem dX12_isDefender_0 : decode cX12_isDefender 0 = .ok (.iload_n 1, 1) := by decide +kernel
theorem dX12_isDefender_1 : decode cX12_isDefender 1 = .ok (.iconst 0, 1) := by decide +kernel
theorem dX12_isDefender_2 : decode cX12_isDefender 2 = .ok (.aload_n 0, 1) := by decide +kernel
theorem dX12_isDefender_3 : decode cX12_isDefender 3 = .ok (.getfield 125, 3) := by decide +kernel
theorem dX12_isDefender_6 : decode cX12_isDefender 6 = .ok (.iconst 1, 1) := by decide +kernel
theorem dX12_isDefender_7 : decode cX12_isDefender 7 = .ok (.isub, 1) := by decide +kernel
theorem dX12_isDefender_8 : decode cX12_isDefender 8 = .ok (.invokestatic 128, 3) := by decide +kernel
theorem dX12_isDefender_11 : decode cX12_isDefender 11 = .ok (.ireturn, 1) := by decide +kernel
theorem dX12_isColumn_0 : decode cX12_isColumn 0 = .ok (.iload_n 0, 1) := by decide +kernel
theorem dX12_isColumn_1 : decode cX12_isColumn 1 = .ok (.iconst 0, 1) := by decide +kernel
theorem dX12_isColumn_2 : decode cX12_isColumn 2 = .ok (.bipush 8, 2) := by decide +kernel
theorem dX12_isColumn_4 : decode cX12_isColumn 4 = .ok (.invokestatic 128, 3) := by decide +kernel
theorem dX12_isColumn_7 : decode cX12_isColumn 7 = .ok (.ireturn, 1) := by decide +kernel
theorem dX12_isRow_0 : decode cX12_isRow 0 = .ok (.iload_n 0, 1) := by decide +kernel
theorem dX12_isRow_1 : decode cX12_isRow 1 = .ok (.iconst 1, 1) := by decide +kernel
theorem dX12_isRow_2 : decode cX12_isRow 2 = .ok (.bipush 8, 2) := by decide +kernel
theorem dX12_isRow_4 : decode cX12_isRow 4 = .ok (.invokestatic 128, 3) := by decide +kernel
theorem dX12_isRow_7 : decode cX12_isRow 7 = .ok (.ireturn, 1) := by decide +kernel
theorem dX12_addDefender_0 : decode cX12_addDefender 0 = .ok (.aload_n 0, 1) := by decide +kernel
theorem dX12_addDefender_1 : decode cX12_addDefender 1 = .ok (.getfield 7, 3) := by decide +kernel
theorem dX12_addDefender_4 : decode cX12_addDefender 4 = .ok (.aload_n 0, 1) := by decide +kernel
theorem dX12_addDefender_5 : decode cX12_addDefender 5 = .ok (.getfield 125, 3) := by decide +kernel
theorem dX12_addDefender_8 : decode cX12_addDefender 8 = .ok (.iload_n 1, 1) := by decide +kernel
theorem dX12_addDefender_9 : decode cX12_addDefender 9 = .ok (.iastore, 1) := by decide +kernel
theorem dX12_addDefender_10 : decode cX12_addDefender 10 = .ok (.aload_n 0, 1) := by decide +kernel
theorem dX12_addDefender_11 : decode cX12_addDefender 11 = .ok (.getfield 13, 3) := by decide +kernel
theorem dX12_addDefender_14 : decode cX12_addDefender 14 = .ok (.aload_n 0, 1) := by decide +kernel
theorem dX12_addDefender_15 : decode cX12_addDefender 15 = .ok (.getfield 125, 3) := by decide +kernel
theorem dX12_addDefender_18 : decode cX12_addDefender 18 = .ok (.iload_n 2, 1) := by decide +kernel
theorem dX12_addDefender_19 : decode cX12_addDefender 19 = .ok (.iastore, 1) := by decide +kernel
theorem dX12_addDefender_20 : decode cX12_addDefender 20 = .ok (.aload_n 0, 1) := by decide +kernel
theorem dX12_addDefender_21 : decode cX12_addDefender 21 = .ok (.getfield 16, 3) := by decide +kernel
theorem dX12_addDefender_24 : decode cX12_addDefender 24 = .ok (.aload_n 0, 1) := by decide +kernel
theorem dX12_addDefender_25 : decode cX12_addDefender 25 = .ok (.getfield 125, 3) := by decide +kernel
theorem dX12_addDefender_28 : decode cX12_addDefender 28 = .ok (.iload_n 3, 1) := by decide +kernel
theorem dX12_addDefender_29 : decode cX12_addDefender 29 = .ok (.iastore, 1) := by decide +kernel
theorem dX12_addDefender_30 : decode cX12_addDefender 30 = .ok (.aload_n 0, 1) := by decide +kernel
theorem dX12_addDefender_31 : decode cX12_addDefender 31 = .ok (.getfield 19, 3) := by decide +kernel
theorem dX12_addDefender_34 : decode cX12_addDefender 34 = .ok (.aload_n 0, 1) := by decide +kernel
theorem dX12_addDefender_35 : decode cX12_addDefender 35 = .ok (.getfield 125, 3) := by decide +kernel
theorem dX12_addDefender_38 : decode cX12_addDefender 38 = .ok (.iconst 1, 1) := by decide +kernel
theorem dX12_addDefender_39 : decode cX12_addDefender 39 = .ok (.iastore, 1) := by decide +kernel
theorem dX12_addDefender_40 : decode cX12_addDefender 40 = .ok (.aload_n 0, 1) := by decide +kernel
theorem dX12_addDefender_41 : decode cX12_addDefender 41 = .ok (.dup, 1) := by decide +kernel
theorem dX12_addDefender_42 : decode cX12_addDefender 42 = .ok (.getfield 125, 3) := by decide +kernel
theorem dX12_addDefender_45 : decode cX12_addDefender 45 = .ok (.iconst 1, 1) := by decide +kernel
theorem dX12_addDefender_46 : decode cX12_addDefender 46 = .ok (.iadd, 1) := by decide +kernel
theorem dX12_addDefender_47 : decode cX12_addDefender 47 = .ok (.putfield 125, 3) := by decide +kernel
theorem dX12_addDefender_50 : decode cX12_addDefender 50 = .ok (.aload_n 0, 1) := by decide +kernel
theorem dX12_addDefender_51 : decode cX12_addDefender 51 = .ok (.getfield 125, 3) := by decide +kernel
theorem dX12_addDefender_54 : decode cX12_addDefender 54 = .ok (.iconst 1, 1) := by decide +kernel
theorem dX12_addDefender_55 : decode cX12_addDefender 55 = .ok (.isub, 1) := by decide +kernel
theorem dX12_addDefender_56 : decode cX12_addDefender 56 = .ok (.ireturn, 1) := by decide +kernel
theorem dX12_defender_0 : decode cX12_defender 0 = .ok (.iload_n 1, 1) := by decide +kernel
theorem dX12_defender_1 : decode cX12_defender 1 = .ok (.ifCond .lt 33, 3) := by decide +kernel
theorem dX12_defender_4 : decode cX12_defender 4 = .ok (.iload_n 1, 1) := by decide +kernel
theorem dX12_defender_5 : decode cX12_defender 5 = .ok (.bipush 10, 2) := by decide +kernel
theorem dX12_defender_7 : decode cX12_defender 7 = .ok (.idiv, 1) := by decide +kernel
theorem dX12_defender_8 : decode cX12_defender 8 = .ok (.invokestatic 132, 3) := by decide +kernel
theorem dX12_defender_11 : decode cX12_defender 11 = .ok (.ifCond .eq 23, 3) := by decide +kernel
theorem dX12_defender_14 : decode cX12_defender 14 = .ok (.iload_n 1, 1) := by decide +kernel
theorem dX12_defender_15 : decode cX12_defender 15 = .ok (.bipush 10, 2) := by decide +kernel
theorem dX12_defender_17 : decode cX12_defender 17 = .ok (.irem, 1) := by decide +kernel
theorem dX12_defender_18 : decode cX12_defender 18 = .ok (.invokestatic 136, 3) := by decide +kernel
theorem dX12_defender_21 : decode cX12_defender 21 = .ok (.ifCond .eq 13, 3) := by decide +kernel
theorem dX12_defender_24 : decode cX12_defender 24 = .ok (.iload_n 2, 1) := by decide +kernel
theorem dX12_defender_25 : decode cX12_defender 25 = .ok (.iconst 0, 1) := by decide +kernel
theorem dX12_defender_26 : decode cX12_defender 26 = .ok (.bipush 9, 2) := by decide +kernel
theorem dX12_defender_28 : decode cX12_defender 28 = .ok (.invokestatic 128, 3) := by decide +kernel
theorem dX12_defender_31 : decode cX12_defender 31 = .ok (.ifCond .ne 5, 3) := by decide +kernel
theorem dX12_defender_34 : decode cX12_defender 34 = .ok (.iconst (-1), 1) := by decide +kernel
theorem dX12_defender_35 : decode cX12_defender 35 = .ok (.ireturn, 1) := by decide +kernel
theorem dX12_defender_36 : decode cX12_defender 36 = .ok (.aload_n 0, 1) := by decide +kernel
theorem dX12_defender_37 : decode cX12_defender 37 = .ok (.getfield 125, 3) := by decide +kernel
theorem dX12_defender_40 : decode cX12_defender 40 = .ok (.bipush 7, 2) := by decide +kernel
theorem dX12_defender_42 : decode cX12_defender 42 = .ok (.if_icmp .ne 8, 3) := by decide +kernel
theorem dX12_defender_45 : decode cX12_defender 45 = .ok (.bipush (-3), 2) := by decide +kernel
theorem dX12_defender_47 : decode cX12_defender 47 = .ok (.goto 16, 3) := by decide +kernel
theorem dX12_defender_50 : decode cX12_defender 50 = .ok (.aload_n 0, 1) := by decide +kernel
theorem dX12_defender_51 : decode cX12_defender 51 = .ok (.iload_n 1, 1) := by decide +kernel
theorem dX12_defender_52 : decode cX12_defender 52 = .ok (.bipush 10, 2) := by decide +kernel
theorem dX12_defender_54 : decode cX12_defender 54 = .ok (.irem, 1) := by decide +kernel
theorem dX12_defender_55 : decode cX12_defender 55 = .ok (.iload_n 1, 1) := by decide +kernel
theorem dX12_defender_56 : decode cX12_defender 56 = .ok (.bipush 10, 2) := by decide +kernel
theorem dX12_defender_58 : decode cX12_defender 58 = .ok (.idiv, 1) := by decide +kernel
theorem dX12_defender_59 : decode cX12_defender 59 = .ok (.iload_n 2, 1) := by decide +kernel
theorem dX12_defender_60 : decode cX12_defender 60 = .ok (.invokevirtual 139, 3) := by decide +kernel
theorem dX12_defender_63 : decode cX12_defender 63 = .ok (.ireturn, 1) := by decide +kernel
theorem dX12_defenders_0 : decode cX12_defenders 0 = .ok (.iload_n 1, 1) := by decide +kernel
theorem dX12_defenders_1 : decode cX12_defenders 1 = .ok (.invokestatic 143, 3) := by decide +kernel
theorem dX12_defenders_4 : decode cX12_defenders 4 = .ok (.ifCond .eq 13, 3) := by decide +kernel
theorem dX12_defenders_7 : decode cX12_defenders 7 = .ok (.iload_n 3, 1) := by decide +kernel
theorem dX12_defenders_8 : decode cX12_defenders 8 = .ok (.iconst 1, 1) := by decide +kernel
theorem dX12_defenders_9 : decode cX12_defenders 9 = .ok (.bipush 7, 2) := by decide +kernel
theorem dX12_defenders_11 : decode cX12_defenders 11 = .ok (.invokestatic 128, 3) := by decide +kernel
theorem dX12_defenders_14 : decode cX12_defenders 14 = .ok (.ifCond .ne 5, 3) := by decide +kernel
theorem dX12_defenders_17 : decode cX12_defenders 17 = .ok (.iconst (-1), 1) := by decide +kernel
theorem dX12_defenders_18 : decode cX12_defenders 18 = .ok (.ireturn, 1) := by decide +kernel
theorem dX12_defenders_19 : decode cX12_defenders 19 = .ok (.aload_n 0, 1) := by decide +kernel
theorem dX12_defenders_20 : decode cX12_defenders 20 = .ok (.getfield 108, 3) := by decide +kernel
theorem dX12_defenders_23 : decode cX12_defenders 23 = .ok (.iload_n 1, 1) := by decide +kernel
theorem dX12_defenders_24 : decode cX12_defenders 24 = .ok (.iaload, 1) := by decide +kernel
theorem dX12_defenders_25 : decode cX12_defenders 25 = .ok (.iconst (-1), 1) := by decide +kernel
theorem dX12_defenders_26 : decode cX12_defenders 26 = .ok (.if_icmp .eq 17, 3) := by decide +kernel
theorem dX12_defenders_29 : decode cX12_defenders 29 = .ok (.aload_n 0, 1) := by decide +kernel
theorem dX12_defenders_30 : decode cX12_defenders 30 = .ok (.getfield 108, 3) := by decide +kernel
theorem dX12_defenders_33 : decode cX12_defenders 33 = .ok (.iload_n 1, 1) := by decide +kernel
theorem dX12_defenders_34 : decode cX12_defenders 34 = .ok (.iaload, 1) := by decide +kernel
theorem dX12_defenders_35 : decode cX12_defenders 35 = .ok (.bipush (-2), 2) := by decide +kernel
theorem dX12_defenders_37 : decode cX12_defenders 37 = .ok (.if_icmp .eq 6, 3) := by decide +kernel
theorem dX12_defenders_40 : decode cX12_defenders 40 = .ok (.bipush (-12), 2) := by decide +kernel
theorem dX12_defenders_42 : decode cX12_defenders 42 = .ok (.ireturn, 1) := by decide +kernel
theorem dX12_defenders_43 : decode cX12_defenders 43 = .ok (.aload_n 0, 1) := by decide +kernel
theorem dX12_defenders_44 : decode cX12_defenders 44 = .ok (.getfield 108, 3) := by decide +kernel
theorem dX12_defenders_47 : decode cX12_defenders 47 = .ok (.iload_n 1, 1) := by decide +kernel
theorem dX12_defenders_48 : decode cX12_defenders 48 = .ok (.iaload, 1) := by decide +kernel
theorem dX12_defenders_49 : decode cX12_defenders 49 = .ok (.iconst (-1), 1) := by decide +kernel
theorem dX12_defenders_50 : decode cX12_defenders 50 = .ok (.if_icmp .ne 5, 3) := by decide +kernel
theorem dX12_defenders_53 : decode cX12_defenders 53 = .ok (.iconst 0, 1) := by decide +kernel
theorem dX12_defenders_54 : decode cX12_defenders 54 = .ok (.ireturn, 1) := by decide +kernel
theorem dX12_defenders_55 : decode cX12_defenders 55 = .ok (.iconst 0, 1) := by decide +kernel
theorem dX12_defenders_56 : decode cX12_defenders 56 = .ok (.istore 4, 2) := by decide +kernel
theorem dX12_defenders_58 : decode cX12_defenders 58 = .ok (.iload 4, 2) := by decide +kernel
theorem dX12_defenders_60 : decode cX12_defenders 60 = .ok (.iload_n 3, 1) := by decide +kernel
theorem dX12_defenders_61 : decode cX12_defenders 61 = .ok (.if_icmp .ge 150, 3) := by decide +kernel
theorem dX12_defenders_64 : decode cX12_defenders 64 = .ok (.iload_n 2, 1) := by decide +kernel
theorem dX12_defenders_65 : decode cX12_defenders 65 = .ok (.i2l, 1) := by decide +kernel
theorem dX12_defenders_66 : decode cX12_defenders 66 = .ok (.iconst 3, 1) := by decide +kernel
theorem dX12_defenders_67 : decode cX12_defenders 67 = .ok (.iload 4, 2) := by decide +kernel
theorem dX12_defenders_69 : decode cX12_defenders 69 = .ok (.imul, 1) := by decide +kernel
theorem dX12_defenders_70 : decode cX12_defenders 70 = .ok (.i2l, 1) := by decide +kernel
theorem dX12_defenders_71 : decode cX12_defenders 71 = .ok (.ladd, 1) := by decide +kernel
theorem dX12_defenders_72 : decode cX12_defenders 72 = .ok (.lstore 5, 2) := by decide +kernel
theorem dX12_defenders_74 : decode cX12_defenders 74 = .ok (.lload 5, 2) := by decide +kernel
theorem dX12_defenders_76 : decode cX12_defenders 76 = .ok (.lconst 0, 1) := by decide +kernel
theorem dX12_defenders_77 : decode cX12_defenders 77 = .ok (.lcmp, 1) := by decide +kernel
theorem dX12_defenders_78 : decode cX12_defenders 78 = .ok (.ifCond .lt 29, 3) := by decide +kernel
theorem dX12_defenders_81 : decode cX12_defenders 81 = .ok (.lload 5, 2) := by decide +kernel
theorem dX12_defenders_83 : decode cX12_defenders 83 = .ok (.ldc2_w 146, 3) := by decide +kernel
theorem dX12_defenders_86 : decode cX12_defenders 86 = .ok (.ladd, 1) := by decide +kernel
theorem dX12_defenders_87 : decode cX12_defenders 87 = .ok (.aload_n 0, 1) := by decide +kernel
theorem dX12_defenders_88 : decode cX12_defenders 88 = .ok (.getfield 111, 3) := by decide +kernel
theorem dX12_defenders_91 : decode cX12_defenders 91 = .ok (.iload_n 1, 1) := by decide +kernel
theorem dX12_defenders_92 : decode cX12_defenders 92 = .ok (.iaload, 1) := by decide +kernel
theorem dX12_defenders_93 : decode cX12_defenders 93 = .ok (.i2l, 1) := by decide +kernel
theorem dX12_defenders_94 : decode cX12_defenders 94 = .ok (.lcmp, 1) := by decide +kernel
theorem dX12_defenders_95 : decode cX12_defenders 95 = .ok (.ifCond .ge 12, 3) := by decide +kernel
theorem dX12_defenders_98 : decode cX12_defenders 98 = .ok (.aload_n 0, 1) := by decide +kernel
theorem dX12_defenders_99 : decode cX12_defenders 99 = .ok (.getfield 125, 3) := by decide +kernel
theorem dX12_defenders_102 : decode cX12_defenders 102 = .ok (.bipush 7, 2) := by decide +kernel
theorem dX12_defenders_104 : decode cX12_defenders 104 = .ok (.if_icmp .ne 6, 3) := by decide +kernel
theorem dX12_defenders_107 : decode cX12_defenders 107 = .ok (.iload 4, 2) := by decide +kernel
theorem dX12_defenders_109 : decode cX12_defenders 109 = .ok (.ireturn, 1) := by decide +kernel
theorem dX12_defenders_110 : decode cX12_defenders 110 = .ok (.bipush 60, 2) := by decide +kernel
theorem dX12_defenders_112 : decode cX12_defenders 112 = .ok (.iload_n 1, 1) := by decide +kernel
theorem dX12_defenders_113 : decode cX12_defenders 113 = .ok (.imul, 1) := by decide +kernel
theorem dX12_defenders_114 : decode cX12_defenders 114 = .ok (.lload 5, 2) := by decide +kernel
theorem dX12_defenders_116 : decode cX12_defenders 116 = .ok (.l2i, 1) := by decide +kernel
theorem dX12_defenders_117 : decode cX12_defenders 117 = .ok (.iadd, 1) := by decide +kernel
theorem dX12_defenders_118 : decode cX12_defenders 118 = .ok (.istore 7, 2) := by decide +kernel
theorem dX12_defenders_120 : decode cX12_defenders 120 = .ok (.aload_n 0, 1) := by decide +kernel
theorem dX12_defenders_121 : decode cX12_defenders 121 = .ok (.getfield 114, 3) := by decide +kernel
theorem dX12_defenders_124 : decode cX12_defenders 124 = .ok (.iload 7, 2) := by decide +kernel
theorem dX12_defenders_126 : decode cX12_defenders 126 = .ok (.laload, 1) := by decide +kernel
theorem dX12_defenders_127 : decode cX12_defenders 127 = .ok (.l2i, 1) := by decide +kernel
theorem dX12_defenders_128 : decode cX12_defenders 128 = .ok (.invokestatic 136, 3) := by decide +kernel
theorem dX12_defenders_131 : decode cX12_defenders 131 = .ok (.ifCond .eq 38, 3) := by decide +kernel
theorem dX12_defenders_134 : decode cX12_defenders 134 = .ok (.aload_n 0, 1) := by decide +kernel
theorem dX12_defenders_135 : decode cX12_defenders 135 = .ok (.getfield 114, 3) := by decide +kernel
theorem dX12_defenders_138 : decode cX12_defenders 138 = .ok (.iload 7, 2) := by decide +kernel
theorem dX12_defenders_140 : decode cX12_defenders 140 = .ok (.iconst 1, 1) := by decide +kernel
theorem dX12_defenders_141 : decode cX12_defenders 141 = .ok (.iadd, 1) := by decide +kernel
theorem dX12_defenders_142 : decode cX12_defenders 142 = .ok (.laload, 1) := by decide +kernel
theorem dX12_defenders_143 : decode cX12_defenders 143 = .ok (.l2i, 1) := by decide +kernel
theorem dX12_defenders_144 : decode cX12_defenders 144 = .ok (.invokestatic 132, 3) := by decide +kernel
theorem dX12_defenders_147 : decode cX12_defenders 147 = .ok (.ifCond .eq 22, 3) := by decide +kernel
theorem dX12_defenders_150 : decode cX12_defenders 150 = .ok (.aload_n 0, 1) := by decide +kernel
theorem dX12_defenders_151 : decode cX12_defenders 151 = .ok (.getfield 114, 3) := by decide +kernel
theorem dX12_defenders_154 : decode cX12_defenders 154 = .ok (.iload 7, 2) := by decide +kernel
theorem dX12_defenders_156 : decode cX12_defenders 156 = .ok (.iconst 2, 1) := by decide +kernel
theorem dX12_defenders_157 : decode cX12_defenders 157 = .ok (.iadd, 1) := by decide +kernel
theorem dX12_defenders_158 : decode cX12_defenders 158 = .ok (.laload, 1) := by decide +kernel
theorem dX12_defenders_159 : decode cX12_defenders 159 = .ok (.l2i, 1) := by decide +kernel
theorem dX12_defenders_160 : decode cX12_defenders 160 = .ok (.iconst 0, 1) := by decide +kernel
theorem dX12_defenders_161 : decode cX12_defenders 161 = .ok (.bipush 9, 2) := by decide +kernel
theorem dX12_defenders_163 : decode cX12_defenders 163 = .ok (.invokestatic 128, 3) := by decide +kernel
theorem dX12_defenders_166 : decode cX12_defenders 166 = .ok (.ifCond .ne 6, 3) := by decide +kernel
theorem dX12_defenders_169 : decode cX12_defenders 169 = .ok (.iload 4, 2) := by decide +kernel
theorem dX12_defenders_171 : decode cX12_defenders 171 = .ok (.ireturn, 1) := by decide +kernel
theorem dX12_defenders_172 : decode cX12_defenders 172 = .ok (.aload_n 0, 1) := by decide +kernel
theorem dX12_defenders_173 : decode cX12_defenders 173 = .ok (.aload_n 0, 1) := by decide +kernel
theorem dX12_defenders_174 : decode cX12_defenders 174 = .ok (.getfield 114, 3) := by decide +kernel
theorem dX12_defenders_177 : decode cX12_defenders 177 = .ok (.iload 7, 2) := by decide +kernel
theorem dX12_defenders_179 : decode cX12_defenders 179 = .ok (.laload, 1) := by decide +kernel
theorem dX12_defenders_180 : decode cX12_defenders 180 = .ok (.l2i, 1) := by decide +kernel
theorem dX12_defenders_181 : decode cX12_defenders 181 = .ok (.aload_n 0, 1) := by decide +kernel
theorem dX12_defenders_182 : decode cX12_defenders 182 = .ok (.getfield 114, 3) := by decide +kernel
theorem dX12_defenders_185 : decode cX12_defenders 185 = .ok (.iload 7, 2) := by decide +kernel
theorem dX12_defenders_187 : decode cX12_defenders 187 = .ok (.iconst 1, 1) := by decide +kernel
theorem dX12_defenders_188 : decode cX12_defenders 188 = .ok (.iadd, 1) := by decide +kernel
theorem dX12_defenders_189 : decode cX12_defenders 189 = .ok (.laload, 1) := by decide +kernel
theorem dX12_defenders_190 : decode cX12_defenders 190 = .ok (.l2i, 1) := by decide +kernel
theorem dX12_defenders_191 : decode cX12_defenders 191 = .ok (.aload_n 0, 1) := by decide +kernel
theorem dX12_defenders_192 : decode cX12_defenders 192 = .ok (.getfield 114, 3) := by decide +kernel
theorem dX12_defenders_195 : decode cX12_defenders 195 = .ok (.iload 7, 2) := by decide +kernel
theorem dX12_defenders_197 : decode cX12_defenders 197 = .ok (.iconst 2, 1) := by decide +kernel
theorem dX12_defenders_198 : decode cX12_defenders 198 = .ok (.iadd, 1) := by decide +kernel
theorem dX12_defenders_199 : decode cX12_defenders 199 = .ok (.laload, 1) := by decide +kernel
theorem dX12_defenders_200 : decode cX12_defenders 200 = .ok (.l2i, 1) := by decide +kernel
theorem dX12_defenders_201 : decode cX12_defenders 201 = .ok (.invokevirtual 139, 3) := by decide +kernel
theorem dX12_defenders_204 : decode cX12_defenders 204 = .ok (.pop, 1) := by decide +kernel
theorem dX12_defenders_205 : decode cX12_defenders 205 = .ok (.iinc 4 1, 3) := by decide +kernel
theorem dX12_defenders_208 : decode cX12_defenders 208 = .ok (.goto (-150), 3) := by decide +kernel
theorem dX12_defenders_211 : decode cX12_defenders 211 = .ok (.iload_n 3, 1) := by decide +kernel
theorem dX12_defenders_212 : decode cX12_defenders 212 = .ok (.ireturn, 1) := by decide +kernel
theorem dX12_valueAt_0 : decode cX12_valueAt 0 = .ok (.iload_n 1, 1) := by decide +kernel
theorem dX12_valueAt_1 : decode cX12_valueAt 1 = .ok (.tableswitch 59 0 3 #[31, 38, 45, 52], 31) := by decide +kernel
theorem dX12_valueAt_32 : decode cX12_valueAt 32 = .ok (.aload_n 0, 1) := by decide +kernel
theorem dX12_valueAt_33 : decode cX12_valueAt 33 = .ok (.getfield 7, 3) := by decide +kernel
theorem dX12_valueAt_36 : decode cX12_valueAt 36 = .ok (.iload_n 2, 1) := by decide +kernel
theorem dX12_valueAt_37 : decode cX12_valueAt 37 = .ok (.iaload, 1) := by decide +kernel
theorem dX12_valueAt_38 : decode cX12_valueAt 38 = .ok (.ireturn, 1) := by decide +kernel
theorem dX12_valueAt_39 : decode cX12_valueAt 39 = .ok (.aload_n 0, 1) := by decide +kernel
theorem dX12_valueAt_40 : decode cX12_valueAt 40 = .ok (.getfield 13, 3) := by decide +kernel
theorem dX12_valueAt_43 : decode cX12_valueAt 43 = .ok (.iload_n 2, 1) := by decide +kernel
theorem dX12_valueAt_44 : decode cX12_valueAt 44 = .ok (.iaload, 1) := by decide +kernel
theorem dX12_valueAt_45 : decode cX12_valueAt 45 = .ok (.ireturn, 1) := by decide +kernel
theorem dX12_valueAt_46 : decode cX12_valueAt 46 = .ok (.aload_n 0, 1) := by decide +kernel
theorem dX12_valueAt_47 : decode cX12_valueAt 47 = .ok (.getfield 16, 3) := by decide +kernel
theorem dX12_valueAt_50 : decode cX12_valueAt 50 = .ok (.iload_n 2, 1) := by decide +kernel
theorem dX12_valueAt_51 : decode cX12_valueAt 51 = .ok (.iaload, 1) := by decide +kernel
theorem dX12_valueAt_52 : decode cX12_valueAt 52 = .ok (.ireturn, 1) := by decide +kernel
theorem dX12_valueAt_53 : decode cX12_valueAt 53 = .ok (.aload_n 0, 1) := by decide +kernel
theorem dX12_valueAt_54 : decode cX12_valueAt 54 = .ok (.getfield 19, 3) := by decide +kernel
theorem dX12_valueAt_57 : decode cX12_valueAt 57 = .ok (.iload_n 2, 1) := by decide +kernel
theorem dX12_valueAt_58 : decode cX12_valueAt 58 = .ok (.iaload, 1) := by decide +kernel
theorem dX12_valueAt_59 : decode cX12_valueAt 59 = .ok (.ireturn, 1) := by decide +kernel
theorem dX12_valueAt_60 : decode cX12_valueAt 60 = .ok (.aload_n 0, 1) := by decide +kernel
theorem dX12_valueAt_61 : decode cX12_valueAt 61 = .ok (.getfield 22, 3) := by decide +kernel
theorem dX12_valueAt_64 : decode cX12_valueAt 64 = .ok (.iload_n 1, 1) := by decide +kernel
theorem dX12_valueAt_65 : decode cX12_valueAt 65 = .ok (.iconst 4, 1) := by decide +kernel
theorem dX12_valueAt_66 : decode cX12_valueAt 66 = .ok (.isub, 1) := by decide +kernel
theorem dX12_valueAt_67 : decode cX12_valueAt 67 = .ok (.iaload, 1) := by decide +kernel
theorem dX12_valueAt_68 : decode cX12_valueAt 68 = .ok (.ireturn, 1) := by decide +kernel
theorem dX12_lays_0 : decode cX12_lays 0 = .ok (.iload_n 1, 1) := by decide +kernel
theorem dX12_lays_1 : decode cX12_lays 1 = .ok (.tableswitch 71 0 3 #[31, 41, 51, 61], 31) := by decide +kernel
theorem dX12_lays_32 : decode cX12_lays 32 = .ok (.aload_n 0, 1) := by decide +kernel
theorem dX12_lays_33 : decode cX12_lays 33 = .ok (.getfield 7, 3) := by decide +kernel
theorem dX12_lays_36 : decode cX12_lays 36 = .ok (.iload_n 2, 1) := by decide +kernel
theorem dX12_lays_37 : decode cX12_lays 37 = .ok (.iload_n 3, 1) := by decide +kernel
theorem dX12_lays_38 : decode cX12_lays 38 = .ok (.iastore, 1) := by decide +kernel
theorem dX12_lays_39 : decode cX12_lays 39 = .ok (.goto 42, 3) := by decide +kernel
theorem dX12_lays_42 : decode cX12_lays 42 = .ok (.aload_n 0, 1) := by decide +kernel
theorem dX12_lays_43 : decode cX12_lays 43 = .ok (.getfield 13, 3) := by decide +kernel
theorem dX12_lays_46 : decode cX12_lays 46 = .ok (.iload_n 2, 1) := by decide +kernel
theorem dX12_lays_47 : decode cX12_lays 47 = .ok (.iload_n 3, 1) := by decide +kernel
theorem dX12_lays_48 : decode cX12_lays 48 = .ok (.iastore, 1) := by decide +kernel
theorem dX12_lays_49 : decode cX12_lays 49 = .ok (.goto 32, 3) := by decide +kernel
theorem dX12_lays_52 : decode cX12_lays 52 = .ok (.aload_n 0, 1) := by decide +kernel
theorem dX12_lays_53 : decode cX12_lays 53 = .ok (.getfield 16, 3) := by decide +kernel
theorem dX12_lays_56 : decode cX12_lays 56 = .ok (.iload_n 2, 1) := by decide +kernel
theorem dX12_lays_57 : decode cX12_lays 57 = .ok (.iload_n 3, 1) := by decide +kernel
theorem dX12_lays_58 : decode cX12_lays 58 = .ok (.iastore, 1) := by decide +kernel
theorem dX12_lays_59 : decode cX12_lays 59 = .ok (.goto 22, 3) := by decide +kernel
theorem dX12_lays_62 : decode cX12_lays 62 = .ok (.aload_n 0, 1) := by decide +kernel
theorem dX12_lays_63 : decode cX12_lays 63 = .ok (.getfield 19, 3) := by decide +kernel
theorem dX12_lays_66 : decode cX12_lays 66 = .ok (.iload_n 2, 1) := by decide +kernel
theorem dX12_lays_67 : decode cX12_lays 67 = .ok (.iload_n 3, 1) := by decide +kernel
theorem dX12_lays_68 : decode cX12_lays 68 = .ok (.iastore, 1) := by decide +kernel
theorem dX12_lays_69 : decode cX12_lays 69 = .ok (.goto 12, 3) := by decide +kernel
theorem dX12_lays_72 : decode cX12_lays 72 = .ok (.aload_n 0, 1) := by decide +kernel
theorem dX12_lays_73 : decode cX12_lays 73 = .ok (.getfield 22, 3) := by decide +kernel
theorem dX12_lays_76 : decode cX12_lays 76 = .ok (.iload_n 1, 1) := by decide +kernel
theorem dX12_lays_77 : decode cX12_lays 77 = .ok (.iconst 4, 1) := by decide +kernel
theorem dX12_lays_78 : decode cX12_lays 78 = .ok (.isub, 1) := by decide +kernel
theorem dX12_lays_79 : decode cX12_lays 79 = .ok (.iload_n 3, 1) := by decide +kernel
theorem dX12_lays_80 : decode cX12_lays 80 = .ok (.iastore, 1) := by decide +kernel
theorem dX12_lays_81 : decode cX12_lays 81 = .ok (.return_, 1) := by decide +kernel
theorem dX12_changes_0 : decode cX12_changes 0 = .ok (.aload_n 0, 1) := by decide +kernel
theorem dX12_changes_1 : decode cX12_changes 1 = .ok (.iload_n 1, 1) := by decide +kernel
theorem dX12_changes_2 : decode cX12_changes 2 = .ok (.iload_n 2, 1) := by decide +kernel
theorem dX12_changes_3 : decode cX12_changes 3 = .ok (.invokevirtual 148, 3) := by decide +kernel
theorem dX12_changes_6 : decode cX12_changes 6 = .ok (.istore 4, 2) := by decide +kernel
theorem dX12_changes_8 : decode cX12_changes 8 = .ok (.iload 4, 2) := by decide +kernel
theorem dX12_changes_10 : decode cX12_changes 10 = .ok (.iload_n 3, 1) := by decide +kernel
theorem dX12_changes_11 : decode cX12_changes 11 = .ok (.if_icmp .ne 6, 3) := by decide +kernel
theorem dX12_changes_14 : decode cX12_changes 14 = .ok (.iload 4, 2) := by decide +kernel
theorem dX12_changes_16 : decode cX12_changes 16 = .ok (.ireturn, 1) := by decide +kernel
theorem dX12_changes_17 : decode cX12_changes 17 = .ok (.aload_n 0, 1) := by decide +kernel
theorem dX12_changes_18 : decode cX12_changes 18 = .ok (.iconst 0, 1) := by decide +kernel
theorem dX12_changes_19 : decode cX12_changes 19 = .ok (.putfield 152, 3) := by decide +kernel
theorem dX12_changes_22 : decode cX12_changes 22 = .ok (.aload_n 0, 1) := by decide +kernel
theorem dX12_changes_23 : decode cX12_changes 23 = .ok (.getfield 155, 3) := by decide +kernel
theorem dX12_changes_26 : decode cX12_changes 26 = .ok (.bipush 40, 2) := by decide +kernel
theorem dX12_changes_28 : decode cX12_changes 28 = .ok (.if_icmp .ne 93, 3) := by decide +kernel
theorem dX12_changes_31 : decode cX12_changes 31 = .ok (.iconst 1, 1) := by decide +kernel
theorem dX12_changes_32 : decode cX12_changes 32 = .ok (.istore 5, 2) := by decide +kernel
theorem dX12_changes_34 : decode cX12_changes 34 = .ok (.iload 5, 2) := by decide +kernel
theorem dX12_changes_36 : decode cX12_changes 36 = .ok (.bipush 40, 2) := by decide +kernel
theorem dX12_changes_38 : decode cX12_changes 38 = .ok (.if_icmp .ge 73, 3) := by decide +kernel
theorem dX12_changes_41 : decode cX12_changes 41 = .ok (.aload_n 0, 1) := by decide +kernel
theorem dX12_changes_42 : decode cX12_changes 42 = .ok (.getfield 25, 3) := by decide +kernel
theorem dX12_changes_45 : decode cX12_changes 45 = .ok (.iload 5, 2) := by decide +kernel
theorem dX12_changes_47 : decode cX12_changes 47 = .ok (.iconst 1, 1) := by decide +kernel
theorem dX12_changes_48 : decode cX12_changes 48 = .ok (.isub, 1) := by decide +kernel
theorem dX12_changes_49 : decode cX12_changes 49 = .ok (.aload_n 0, 1) := by decide +kernel
theorem dX12_changes_50 : decode cX12_changes 50 = .ok (.getfield 25, 3) := by decide +kernel
theorem dX12_changes_53 : decode cX12_changes 53 = .ok (.iload 5, 2) := by decide +kernel
theorem dX12_changes_55 : decode cX12_changes 55 = .ok (.iaload, 1) := by decide +kernel
theorem dX12_changes_56 : decode cX12_changes 56 = .ok (.iastore, 1) := by decide +kernel
theorem dX12_changes_57 : decode cX12_changes 57 = .ok (.aload_n 0, 1) := by decide +kernel
theorem dX12_changes_58 : decode cX12_changes 58 = .ok (.getfield 28, 3) := by decide +kernel
theorem dX12_changes_61 : decode cX12_changes 61 = .ok (.iload 5, 2) := by decide +kernel
theorem dX12_changes_63 : decode cX12_changes 63 = .ok (.iconst 1, 1) := by decide +kernel
theorem dX12_changes_64 : decode cX12_changes 64 = .ok (.isub, 1) := by decide +kernel
theorem dX12_changes_65 : decode cX12_changes 65 = .ok (.aload_n 0, 1) := by decide +kernel
theorem dX12_changes_66 : decode cX12_changes 66 = .ok (.getfield 28, 3) := by decide +kernel
theorem dX12_changes_69 : decode cX12_changes 69 = .ok (.iload 5, 2) := by decide +kernel
theorem dX12_changes_71 : decode cX12_changes 71 = .ok (.iaload, 1) := by decide +kernel
theorem dX12_changes_72 : decode cX12_changes 72 = .ok (.iastore, 1) := by decide +kernel
theorem dX12_changes_73 : decode cX12_changes 73 = .ok (.aload_n 0, 1) := by decide +kernel
theorem dX12_changes_74 : decode cX12_changes 74 = .ok (.getfield 31, 3) := by decide +kernel
theorem dX12_changes_77 : decode cX12_changes 77 = .ok (.iload 5, 2) := by decide +kernel
theorem dX12_changes_79 : decode cX12_changes 79 = .ok (.iconst 1, 1) := by decide +kernel
theorem dX12_changes_80 : decode cX12_changes 80 = .ok (.isub, 1) := by decide +kernel
theorem dX12_changes_81 : decode cX12_changes 81 = .ok (.aload_n 0, 1) := by decide +kernel
theorem dX12_changes_82 : decode cX12_changes 82 = .ok (.getfield 31, 3) := by decide +kernel
theorem dX12_changes_85 : decode cX12_changes 85 = .ok (.iload 5, 2) := by decide +kernel
theorem dX12_changes_87 : decode cX12_changes 87 = .ok (.iaload, 1) := by decide +kernel
theorem dX12_changes_88 : decode cX12_changes 88 = .ok (.iastore, 1) := by decide +kernel
theorem dX12_changes_89 : decode cX12_changes 89 = .ok (.aload_n 0, 1) := by decide +kernel
theorem dX12_changes_90 : decode cX12_changes 90 = .ok (.getfield 34, 3) := by decide +kernel
theorem dX12_changes_93 : decode cX12_changes 93 = .ok (.iload 5, 2) := by decide +kernel
theorem dX12_changes_95 : decode cX12_changes 95 = .ok (.iconst 1, 1) := by decide +kernel
theorem dX12_changes_96 : decode cX12_changes 96 = .ok (.isub, 1) := by decide +kernel
theorem dX12_changes_97 : decode cX12_changes 97 = .ok (.aload_n 0, 1) := by decide +kernel
theorem dX12_changes_98 : decode cX12_changes 98 = .ok (.getfield 34, 3) := by decide +kernel
theorem dX12_changes_101 : decode cX12_changes 101 = .ok (.iload 5, 2) := by decide +kernel
theorem dX12_changes_103 : decode cX12_changes 103 = .ok (.iaload, 1) := by decide +kernel
theorem dX12_changes_104 : decode cX12_changes 104 = .ok (.iastore, 1) := by decide +kernel
theorem dX12_changes_105 : decode cX12_changes 105 = .ok (.iinc 5 1, 3) := by decide +kernel
theorem dX12_changes_108 : decode cX12_changes 108 = .ok (.goto (-74), 3) := by decide +kernel
theorem dX12_changes_111 : decode cX12_changes 111 = .ok (.aload_n 0, 1) := by decide +kernel
theorem dX12_changes_112 : decode cX12_changes 112 = .ok (.dup, 1) := by decide +kernel
theorem dX12_changes_113 : decode cX12_changes 113 = .ok (.getfield 155, 3) := by decide +kernel
theorem dX12_changes_116 : decode cX12_changes 116 = .ok (.iconst 1, 1) := by decide +kernel
theorem dX12_changes_117 : decode cX12_changes 117 = .ok (.isub, 1) := by decide +kernel
theorem dX12_changes_118 : decode cX12_changes 118 = .ok (.putfield 155, 3) := by decide +kernel
theorem dX12_changes_121 : decode cX12_changes 121 = .ok (.aload_n 0, 1) := by decide +kernel
theorem dX12_changes_122 : decode cX12_changes 122 = .ok (.getfield 25, 3) := by decide +kernel
theorem dX12_changes_125 : decode cX12_changes 125 = .ok (.aload_n 0, 1) := by decide +kernel
theorem dX12_changes_126 : decode cX12_changes 126 = .ok (.getfield 155, 3) := by decide +kernel
theorem dX12_changes_129 : decode cX12_changes 129 = .ok (.iload_n 1, 1) := by decide +kernel
theorem dX12_changes_130 : decode cX12_changes 130 = .ok (.iastore, 1) := by decide +kernel
theorem dX12_changes_131 : decode cX12_changes 131 = .ok (.aload_n 0, 1) := by decide +kernel
theorem dX12_changes_132 : decode cX12_changes 132 = .ok (.getfield 28, 3) := by decide +kernel
theorem dX12_changes_135 : decode cX12_changes 135 = .ok (.aload_n 0, 1) := by decide +kernel
theorem dX12_changes_136 : decode cX12_changes 136 = .ok (.getfield 155, 3) := by decide +kernel
theorem dX12_changes_139 : decode cX12_changes 139 = .ok (.iload_n 2, 1) := by decide +kernel
theorem dX12_changes_140 : decode cX12_changes 140 = .ok (.iastore, 1) := by decide +kernel
theorem dX12_changes_141 : decode cX12_changes 141 = .ok (.aload_n 0, 1) := by decide +kernel
theorem dX12_changes_142 : decode cX12_changes 142 = .ok (.getfield 31, 3) := by decide +kernel
theorem dX12_changes_145 : decode cX12_changes 145 = .ok (.aload_n 0, 1) := by decide +kernel
theorem dX12_changes_146 : decode cX12_changes 146 = .ok (.getfield 155, 3) := by decide +kernel
theorem dX12_changes_149 : decode cX12_changes 149 = .ok (.iload 4, 2) := by decide +kernel
theorem dX12_changes_151 : decode cX12_changes 151 = .ok (.iastore, 1) := by decide +kernel
theorem dX12_changes_152 : decode cX12_changes 152 = .ok (.aload_n 0, 1) := by decide +kernel
theorem dX12_changes_153 : decode cX12_changes 153 = .ok (.getfield 34, 3) := by decide +kernel
theorem dX12_changes_156 : decode cX12_changes 156 = .ok (.aload_n 0, 1) := by decide +kernel
theorem dX12_changes_157 : decode cX12_changes 157 = .ok (.getfield 155, 3) := by decide +kernel
theorem dX12_changes_160 : decode cX12_changes 160 = .ok (.iload_n 3, 1) := by decide +kernel
theorem dX12_changes_161 : decode cX12_changes 161 = .ok (.iastore, 1) := by decide +kernel
theorem dX12_changes_162 : decode cX12_changes 162 = .ok (.aload_n 0, 1) := by decide +kernel
theorem dX12_changes_163 : decode cX12_changes 163 = .ok (.dup, 1) := by decide +kernel
theorem dX12_changes_164 : decode cX12_changes 164 = .ok (.getfield 155, 3) := by decide +kernel
theorem dX12_changes_167 : decode cX12_changes 167 = .ok (.iconst 1, 1) := by decide +kernel
theorem dX12_changes_168 : decode cX12_changes 168 = .ok (.iadd, 1) := by decide +kernel
theorem dX12_changes_169 : decode cX12_changes 169 = .ok (.putfield 155, 3) := by decide +kernel
theorem dX12_changes_172 : decode cX12_changes 172 = .ok (.aload_n 0, 1) := by decide +kernel
theorem dX12_changes_173 : decode cX12_changes 173 = .ok (.iload_n 1, 1) := by decide +kernel
theorem dX12_changes_174 : decode cX12_changes 174 = .ok (.iload_n 2, 1) := by decide +kernel
theorem dX12_changes_175 : decode cX12_changes 175 = .ok (.iload_n 3, 1) := by decide +kernel
theorem dX12_changes_176 : decode cX12_changes 176 = .ok (.invokevirtual 158, 3) := by decide +kernel
theorem dX12_changes_179 : decode cX12_changes 179 = .ok (.iload 4, 2) := by decide +kernel
theorem dX12_changes_181 : decode cX12_changes 181 = .ok (.ireturn, 1) := by decide +kernel
theorem dX12_undo_0 : decode cX12_undo 0 = .ok (.aload_n 0, 1) := by decide +kernel
theorem dX12_undo_1 : decode cX12_undo 1 = .ok (.getfield 155, 3) := by decide +kernel
theorem dX12_undo_4 : decode cX12_undo 4 = .ok (.ifCond .ne 6, 3) := by decide +kernel
theorem dX12_undo_7 : decode cX12_undo 7 = .ok (.bipush (-5), 2) := by decide +kernel
theorem dX12_undo_9 : decode cX12_undo 9 = .ok (.ireturn, 1) := by decide +kernel
theorem dX12_undo_10 : decode cX12_undo 10 = .ok (.aload_n 0, 1) := by decide +kernel
theorem dX12_undo_11 : decode cX12_undo 11 = .ok (.dup, 1) := by decide +kernel
theorem dX12_undo_12 : decode cX12_undo 12 = .ok (.getfield 155, 3) := by decide +kernel
theorem dX12_undo_15 : decode cX12_undo 15 = .ok (.iconst 1, 1) := by decide +kernel
theorem dX12_undo_16 : decode cX12_undo 16 = .ok (.isub, 1) := by decide +kernel
theorem dX12_undo_17 : decode cX12_undo 17 = .ok (.putfield 155, 3) := by decide +kernel
theorem dX12_undo_20 : decode cX12_undo 20 = .ok (.aload_n 0, 1) := by decide +kernel
theorem dX12_undo_21 : decode cX12_undo 21 = .ok (.dup, 1) := by decide +kernel
theorem dX12_undo_22 : decode cX12_undo 22 = .ok (.getfield 152, 3) := by decide +kernel
theorem dX12_undo_25 : decode cX12_undo 25 = .ok (.iconst 1, 1) := by decide +kernel
theorem dX12_undo_26 : decode cX12_undo 26 = .ok (.iadd, 1) := by decide +kernel
theorem dX12_undo_27 : decode cX12_undo 27 = .ok (.putfield 152, 3) := by decide +kernel
theorem dX12_undo_30 : decode cX12_undo 30 = .ok (.aload_n 0, 1) := by decide +kernel
theorem dX12_undo_31 : decode cX12_undo 31 = .ok (.aload_n 0, 1) := by decide +kernel
theorem dX12_undo_32 : decode cX12_undo 32 = .ok (.getfield 25, 3) := by decide +kernel
theorem dX12_undo_35 : decode cX12_undo 35 = .ok (.aload_n 0, 1) := by decide +kernel
theorem dX12_undo_36 : decode cX12_undo 36 = .ok (.getfield 155, 3) := by decide +kernel
theorem dX12_undo_39 : decode cX12_undo 39 = .ok (.iaload, 1) := by decide +kernel
theorem dX12_undo_40 : decode cX12_undo 40 = .ok (.aload_n 0, 1) := by decide +kernel
theorem dX12_undo_41 : decode cX12_undo 41 = .ok (.getfield 28, 3) := by decide +kernel
theorem dX12_undo_44 : decode cX12_undo 44 = .ok (.aload_n 0, 1) := by decide +kernel
theorem dX12_undo_45 : decode cX12_undo 45 = .ok (.getfield 155, 3) := by decide +kernel
theorem dX12_undo_48 : decode cX12_undo 48 = .ok (.iaload, 1) := by decide +kernel
theorem dX12_undo_49 : decode cX12_undo 49 = .ok (.aload_n 0, 1) := by decide +kernel
theorem dX12_undo_50 : decode cX12_undo 50 = .ok (.getfield 31, 3) := by decide +kernel
theorem dX12_undo_53 : decode cX12_undo 53 = .ok (.aload_n 0, 1) := by decide +kernel
theorem dX12_undo_54 : decode cX12_undo 54 = .ok (.getfield 155, 3) := by decide +kernel
theorem dX12_undo_57 : decode cX12_undo 57 = .ok (.iaload, 1) := by decide +kernel
theorem dX12_undo_58 : decode cX12_undo 58 = .ok (.invokevirtual 158, 3) := by decide +kernel
theorem dX12_undo_61 : decode cX12_undo 61 = .ok (.aload_n 0, 1) := by decide +kernel
theorem dX12_undo_62 : decode cX12_undo 62 = .ok (.getfield 155, 3) := by decide +kernel
theorem dX12_undo_65 : decode cX12_undo 65 = .ok (.ireturn, 1) := by decide +kernel
theorem dX12_redo_0 : decode cX12_redo 0 = .ok (.aload_n 0, 1) := by decide +kernel
theorem dX12_redo_1 : decode cX12_redo 1 = .ok (.getfield 152, 3) := by decide +kernel
theorem dX12_redo_4 : decode cX12_redo 4 = .ok (.ifCond .ne 6, 3) := by decide +kernel
theorem dX12_redo_7 : decode cX12_redo 7 = .ok (.bipush (-5), 2) := by decide +kernel
theorem dX12_redo_9 : decode cX12_redo 9 = .ok (.ireturn, 1) := by decide +kernel
theorem dX12_redo_10 : decode cX12_redo 10 = .ok (.aload_n 0, 1) := by decide +kernel
theorem dX12_redo_11 : decode cX12_redo 11 = .ok (.aload_n 0, 1) := by decide +kernel
theorem dX12_redo_12 : decode cX12_redo 12 = .ok (.getfield 25, 3) := by decide +kernel
theorem dX12_redo_15 : decode cX12_redo 15 = .ok (.aload_n 0, 1) := by decide +kernel
theorem dX12_redo_16 : decode cX12_redo 16 = .ok (.getfield 155, 3) := by decide +kernel
theorem dX12_redo_19 : decode cX12_redo 19 = .ok (.iaload, 1) := by decide +kernel
theorem dX12_redo_20 : decode cX12_redo 20 = .ok (.aload_n 0, 1) := by decide +kernel
theorem dX12_redo_21 : decode cX12_redo 21 = .ok (.getfield 28, 3) := by decide +kernel
theorem dX12_redo_24 : decode cX12_redo 24 = .ok (.aload_n 0, 1) := by decide +kernel
theorem dX12_redo_25 : decode cX12_redo 25 = .ok (.getfield 155, 3) := by decide +kernel
theorem dX12_redo_28 : decode cX12_redo 28 = .ok (.iaload, 1) := by decide +kernel
theorem dX12_redo_29 : decode cX12_redo 29 = .ok (.aload_n 0, 1) := by decide +kernel
theorem dX12_redo_30 : decode cX12_redo 30 = .ok (.getfield 34, 3) := by decide +kernel
theorem dX12_redo_33 : decode cX12_redo 33 = .ok (.aload_n 0, 1) := by decide +kernel
theorem dX12_redo_34 : decode cX12_redo 34 = .ok (.getfield 155, 3) := by decide +kernel
theorem dX12_redo_37 : decode cX12_redo 37 = .ok (.iaload, 1) := by decide +kernel
theorem dX12_redo_38 : decode cX12_redo 38 = .ok (.invokevirtual 158, 3) := by decide +kernel
theorem dX12_redo_41 : decode cX12_redo 41 = .ok (.aload_n 0, 1) := by decide +kernel
theorem dX12_redo_42 : decode cX12_redo 42 = .ok (.dup, 1) := by decide +kernel
theorem dX12_redo_43 : decode cX12_redo 43 = .ok (.getfield 155, 3) := by decide +kernel
theorem dX12_redo_46 : decode cX12_redo 46 = .ok (.iconst 1, 1) := by decide +kernel
theorem dX12_redo_47 : decode cX12_redo 47 = .ok (.iadd, 1) := by decide +kernel
theorem dX12_redo_48 : decode cX12_redo 48 = .ok (.putfield 155, 3) := by decide +kernel
theorem dX12_redo_51 : decode cX12_redo 51 = .ok (.aload_n 0, 1) := by decide +kernel
theorem dX12_redo_52 : decode cX12_redo 52 = .ok (.dup, 1) := by decide +kernel
theorem dX12_redo_53 : decode cX12_redo 53 = .ok (.getfield 152, 3) := by decide +kernel
theorem dX12_redo_56 : decode cX12_redo 56 = .ok (.iconst 1, 1) := by decide +kernel
theorem dX12_redo_57 : decode cX12_redo 57 = .ok (.isub, 1) := by decide +kernel
theorem dX12_redo_58 : decode cX12_redo 58 = .ok (.putfield 152, 3) := by decide +kernel
theorem dX12_redo_61 : decode cX12_redo 61 = .ok (.aload_n 0, 1) := by decide +kernel
theorem dX12_redo_62 : decode cX12_redo 62 = .ok (.getfield 152, 3) := by decide +kernel
theorem dX12_redo_65 : decode cX12_redo 65 = .ok (.ireturn, 1) := by decide +kernel
theorem dX12_isOne_0 : decode cX12_isOne 0 = .ok (.iload_n 2, 1) := by decide +kernel
theorem dX12_isOne_1 : decode cX12_isOne 1 = .ok (.iconst 0, 1) := by decide +kernel
theorem dX12_isOne_2 : decode cX12_isOne 2 = .ok (.iconst 3, 1) := by decide +kernel
theorem dX12_isOne_3 : decode cX12_isOne 3 = .ok (.invokestatic 128, 3) := by decide +kernel
theorem dX12_isOne_6 : decode cX12_isOne 6 = .ok (.ifCond .eq 11, 3) := by decide +kernel
theorem dX12_isOne_9 : decode cX12_isOne 9 = .ok (.aload_n 0, 1) := by decide +kernel
theorem dX12_isOne_10 : decode cX12_isOne 10 = .ok (.iload_n 1, 1) := by decide +kernel
theorem dX12_isOne_11 : decode cX12_isOne 11 = .ok (.invokevirtual 162, 3) := by decide +kernel
theorem dX12_isOne_14 : decode cX12_isOne 14 = .ok (.goto 22, 3) := by decide +kernel
theorem dX12_isOne_17 : decode cX12_isOne 17 = .ok (.iload_n 2, 1) := by decide +kernel
theorem dX12_isOne_18 : decode cX12_isOne 18 = .ok (.iconst 4, 1) := by decide +kernel
theorem dX12_isOne_19 : decode cX12_isOne 19 = .ok (.bipush 13, 2) := by decide +kernel
theorem dX12_isOne_21 : decode cX12_isOne 21 = .ok (.invokestatic 128, 3) := by decide +kernel
theorem dX12_isOne_24 : decode cX12_isOne 24 = .ok (.ifCond .eq 11, 3) := by decide +kernel
theorem dX12_isOne_27 : decode cX12_isOne 27 = .ok (.iload_n 1, 1) := by decide +kernel
theorem dX12_isOne_28 : decode cX12_isOne 28 = .ok (.ifCond .ne 7, 3) := by decide +kernel
theorem dX12_isOne_31 : decode cX12_isOne 31 = .ok (.iconst 1, 1) := by decide +kernel
theorem dX12_isOne_32 : decode cX12_isOne 32 = .ok (.goto 4, 3) := by decide +kernel
theorem dX12_isOne_35 : decode cX12_isOne 35 = .ok (.iconst 0, 1) := by decide +kernel
theorem dX12_isOne_36 : decode cX12_isOne 36 = .ok (.ireturn, 1) := by decide +kernel
theorem dX12_mayHave_0 : decode cX12_mayHave 0 = .ok (.iload_n 0, 1) := by decide +kernel
theorem dX12_mayHave_1 : decode cX12_mayHave 1 = .ok (.tableswitch 109 0 8 #[51, 56, 61, 69, 76, 84, 91, 99, 104], 51) := by decide +kernel
theorem dX12_mayHave_52 : decode cX12_mayHave 52 = .ok (.iload_n 1, 1) := by decide +kernel
theorem dX12_mayHave_53 : decode cX12_mayHave 53 = .ok (.invokestatic 136, 3) := by decide +kernel
theorem dX12_mayHave_56 : decode cX12_mayHave 56 = .ok (.ireturn, 1) := by decide +kernel
theorem dX12_mayHave_57 : decode cX12_mayHave 57 = .ok (.iload_n 1, 1) := by decide +kernel
theorem dX12_mayHave_58 : decode cX12_mayHave 58 = .ok (.invokestatic 132, 3) := by decide +kernel
theorem dX12_mayHave_61 : decode cX12_mayHave 61 = .ok (.ireturn, 1) := by decide +kernel
theorem dX12_mayHave_62 : decode cX12_mayHave 62 = .ok (.iload_n 1, 1) := by decide +kernel
theorem dX12_mayHave_63 : decode cX12_mayHave 63 = .ok (.iconst 0, 1) := by decide +kernel
theorem dX12_mayHave_64 : decode cX12_mayHave 64 = .ok (.bipush 9, 2) := by decide +kernel
theorem dX12_mayHave_66 : decode cX12_mayHave 66 = .ok (.invokestatic 128, 3) := by decide +kernel
theorem dX12_mayHave_69 : decode cX12_mayHave 69 = .ok (.ireturn, 1) := by decide +kernel
theorem dX12_mayHave_70 : decode cX12_mayHave 70 = .ok (.iload_n 1, 1) := by decide +kernel
theorem dX12_mayHave_71 : decode cX12_mayHave 71 = .ok (.iconst 0, 1) := by decide +kernel
theorem dX12_mayHave_72 : decode cX12_mayHave 72 = .ok (.iconst 1, 1) := by decide +kernel
theorem dX12_mayHave_73 : decode cX12_mayHave 73 = .ok (.invokestatic 128, 3) := by decide +kernel
theorem dX12_mayHave_76 : decode cX12_mayHave 76 = .ok (.ireturn, 1) := by decide +kernel
theorem dX12_mayHave_77 : decode cX12_mayHave 77 = .ok (.iload_n 1, 1) := by decide +kernel
theorem dX12_mayHave_78 : decode cX12_mayHave 78 = .ok (.iconst 1, 1) := by decide +kernel
theorem dX12_mayHave_79 : decode cX12_mayHave 79 = .ok (.bipush 60, 2) := by decide +kernel
theorem dX12_mayHave_81 : decode cX12_mayHave 81 = .ok (.invokestatic 128, 3) := by decide +kernel
theorem dX12_mayHave_84 : decode cX12_mayHave 84 = .ok (.ireturn, 1) := by decide +kernel
theorem dX12_mayHave_85 : decode cX12_mayHave 85 = .ok (.iload_n 1, 1) := by decide +kernel
theorem dX12_mayHave_86 : decode cX12_mayHave 86 = .ok (.iconst 0, 1) := by decide +kernel
theorem dX12_mayHave_87 : decode cX12_mayHave 87 = .ok (.iconst 3, 1) := by decide +kernel
theorem dX12_mayHave_88 : decode cX12_mayHave 88 = .ok (.invokestatic 128, 3) := by decide +kernel
theorem dX12_mayHave_91 : decode cX12_mayHave 91 = .ok (.ireturn, 1) := by decide +kernel
theorem dX12_mayHave_92 : decode cX12_mayHave 92 = .ok (.iload_n 1, 1) := by decide +kernel
theorem dX12_mayHave_93 : decode cX12_mayHave 93 = .ok (.iconst 0, 1) := by decide +kernel
theorem dX12_mayHave_94 : decode cX12_mayHave 94 = .ok (.bipush 40, 2) := by decide +kernel
theorem dX12_mayHave_96 : decode cX12_mayHave 96 = .ok (.invokestatic 128, 3) := by decide +kernel
theorem dX12_mayHave_99 : decode cX12_mayHave 99 = .ok (.ireturn, 1) := by decide +kernel
theorem dX12_mayHave_100 : decode cX12_mayHave 100 = .ok (.iload_n 1, 1) := by decide +kernel
theorem dX12_mayHave_101 : decode cX12_mayHave 101 = .ok (.invokestatic 136, 3) := by decide +kernel
theorem dX12_mayHave_104 : decode cX12_mayHave 104 = .ok (.ireturn, 1) := by decide +kernel
theorem dX12_mayHave_105 : decode cX12_mayHave 105 = .ok (.iload_n 1, 1) := by decide +kernel
theorem dX12_mayHave_106 : decode cX12_mayHave 106 = .ok (.invokestatic 132, 3) := by decide +kernel
