theorem dX12_mayHave_109 : decode cX12_mayHave 109 = .ok (.ireturn, 1) := by decide +kernel
theorem dX12_mayHave_110 : decode cX12_mayHave 110 = .ok (.iload_n 1, 1) := by decide +kernel
theorem dX12_mayHave_111 : decode cX12_mayHave 111 = .ok (.iconst 0, 1) := by decide +kernel
theorem dX12_mayHave_112 : decode cX12_mayHave 112 = .ok (.bipush 12, 2) := by decide +kernel
theorem dX12_mayHave_114 : decode cX12_mayHave 114 = .ok (.invokestatic 128, 3) := by decide +kernel
theorem dX12_mayHave_117 : decode cX12_mayHave 117 = .ok (.ireturn, 1) := by decide +kernel
theorem dX12_mend_0 : decode cX12_mend 0 = .ok (.aload_n 0, 1) := by decide +kernel
theorem dX12_mend_1 : decode cX12_mend 1 = .ok (.iload_n 1, 1) := by decide +kernel
theorem dX12_mend_2 : decode cX12_mend 2 = .ok (.iload_n 2, 1) := by decide +kernel
theorem dX12_mend_3 : decode cX12_mend 3 = .ok (.invokevirtual 165, 3) := by decide +kernel
theorem dX12_mend_6 : decode cX12_mend 6 = .ok (.ifCond .eq 21, 3) := by decide +kernel
theorem dX12_mend_9 : decode cX12_mend 9 = .ok (.iload_n 2, 1) := by decide +kernel
theorem dX12_mend_10 : decode cX12_mend 10 = .ok (.iload_n 3, 1) := by decide +kernel
theorem dX12_mend_11 : decode cX12_mend 11 = .ok (.invokestatic 169, 3) := by decide +kernel
theorem dX12_mend_14 : decode cX12_mend 14 = .ok (.ifCond .eq 13, 3) := by decide +kernel
theorem dX12_mend_17 : decode cX12_mend 17 = .ok (.aload_n 0, 1) := by decide +kernel
theorem dX12_mend_18 : decode cX12_mend 18 = .ok (.iload_n 2, 1) := by decide +kernel
theorem dX12_mend_19 : decode cX12_mend 19 = .ok (.iload_n 1, 1) := by decide +kernel
theorem dX12_mend_20 : decode cX12_mend 20 = .ok (.iload_n 3, 1) := by decide +kernel
theorem dX12_mend_21 : decode cX12_mend 21 = .ok (.invokevirtual 172, 3) := by decide +kernel
theorem dX12_mend_24 : decode cX12_mend 24 = .ok (.goto 4, 3) := by decide +kernel
theorem dX12_mend_27 : decode cX12_mend 27 = .ok (.iconst (-1), 1) := by decide +kernel
theorem dX12_mend_28 : decode cX12_mend 28 = .ok (.ireturn, 1) := by decide +kernel
theorem dX12_of_0 : decode cX12_of 0 = .ok (.aload_n 0, 1) := by decide +kernel
theorem dX12_of_1 : decode cX12_of 1 = .ok (.iload_n 1, 1) := by decide +kernel
theorem dX12_of_2 : decode cX12_of 2 = .ok (.iload_n 2, 1) := by decide +kernel
theorem dX12_of_3 : decode cX12_of 3 = .ok (.invokevirtual 165, 3) := by decide +kernel
theorem dX12_of_6 : decode cX12_of 6 = .ok (.ifCond .eq 12, 3) := by decide +kernel
theorem dX12_of_9 : decode cX12_of 9 = .ok (.aload_n 0, 1) := by decide +kernel
theorem dX12_of_10 : decode cX12_of 10 = .ok (.iload_n 2, 1) := by decide +kernel
theorem dX12_of_11 : decode cX12_of 11 = .ok (.iload_n 1, 1) := by decide +kernel
theorem dX12_of_12 : decode cX12_of 12 = .ok (.invokevirtual 148, 3) := by decide +kernel
theorem dX12_of_15 : decode cX12_of 15 = .ok (.goto 4, 3) := by decide +kernel
theorem dX12_of_18 : decode cX12_of 18 = .ok (.iconst (-1), 1) := by decide +kernel
theorem dX12_of_19 : decode cX12_of 19 = .ok (.ireturn, 1) := by decide +kernel
theorem dX12_feed_0 : decode cX12_feed 0 = .ok (.iload_n 1, 1) := by decide +kernel
theorem dX12_feed_1 : decode cX12_feed 1 = .ok (.iconst 0, 1) := by decide +kernel
theorem dX12_feed_2 : decode cX12_feed 2 = .ok (.sipush 255, 3) := by decide +kernel
theorem dX12_feed_5 : decode cX12_feed 5 = .ok (.invokestatic 128, 3) := by decide +kernel
theorem dX12_feed_8 : decode cX12_feed 8 = .ok (.ifCond .ne 5, 3) := by decide +kernel
theorem dX12_feed_11 : decode cX12_feed 11 = .ok (.iconst (-1), 1) := by decide +kernel
theorem dX12_feed_12 : decode cX12_feed 12 = .ok (.ireturn, 1) := by decide +kernel
theorem dX12_feed_13 : decode cX12_feed 13 = .ok (.aload_n 0, 1) := by decide +kernel
theorem dX12_feed_14 : decode cX12_feed 14 = .ok (.getfield 175, 3) := by decide +kernel
theorem dX12_feed_17 : decode cX12_feed 17 = .ok (.bipush 120, 2) := by decide +kernel
theorem dX12_feed_19 : decode cX12_feed 19 = .ok (.if_icmp .ne 6, 3) := by decide +kernel
theorem dX12_feed_22 : decode cX12_feed 22 = .ok (.bipush (-3), 2) := by decide +kernel
theorem dX12_feed_24 : decode cX12_feed 24 = .ok (.ireturn, 1) := by decide +kernel
theorem dX12_feed_25 : decode cX12_feed 25 = .ok (.aload_n 0, 1) := by decide +kernel
theorem dX12_feed_26 : decode cX12_feed 26 = .ok (.getfield 37, 3) := by decide +kernel
theorem dX12_feed_29 : decode cX12_feed 29 = .ok (.aload_n 0, 1) := by decide +kernel
theorem dX12_feed_30 : decode cX12_feed 30 = .ok (.getfield 175, 3) := by decide +kernel
theorem dX12_feed_33 : decode cX12_feed 33 = .ok (.iload_n 1, 1) := by decide +kernel
theorem dX12_feed_34 : decode cX12_feed 34 = .ok (.i2b, 1) := by decide +kernel
theorem dX12_feed_35 : decode cX12_feed 35 = .ok (.bastore, 1) := by decide +kernel
theorem dX12_feed_36 : decode cX12_feed 36 = .ok (.aload_n 0, 1) := by decide +kernel
theorem dX12_feed_37 : decode cX12_feed 37 = .ok (.dup, 1) := by decide +kernel
theorem dX12_feed_38 : decode cX12_feed 38 = .ok (.getfield 175, 3) := by decide +kernel
theorem dX12_feed_41 : decode cX12_feed 41 = .ok (.iconst 1, 1) := by decide +kernel
theorem dX12_feed_42 : decode cX12_feed 42 = .ok (.iadd, 1) := by decide +kernel
theorem dX12_feed_43 : decode cX12_feed 43 = .ok (.putfield 175, 3) := by decide +kernel
theorem dX12_feed_46 : decode cX12_feed 46 = .ok (.aload_n 0, 1) := by decide +kernel
theorem dX12_feed_47 : decode cX12_feed 47 = .ok (.getfield 175, 3) := by decide +kernel
theorem dX12_feed_50 : decode cX12_feed 50 = .ok (.ireturn, 1) := by decide +kernel
theorem dX12_look_0 : decode cX12_look 0 = .ok (.aload_n 0, 1) := by decide +kernel
theorem dX12_look_1 : decode cX12_look 1 = .ok (.getfield 178, 3) := by decide +kernel
theorem dX12_look_4 : decode cX12_look 4 = .ok (.aload_n 0, 1) := by decide +kernel
theorem dX12_look_5 : decode cX12_look 5 = .ok (.getfield 175, 3) := by decide +kernel
theorem dX12_look_8 : decode cX12_look 8 = .ok (.if_icmp .ge 15, 3) := by decide +kernel
theorem dX12_look_11 : decode cX12_look 11 = .ok (.aload_n 0, 1) := by decide +kernel
theorem dX12_look_12 : decode cX12_look 12 = .ok (.getfield 37, 3) := by decide +kernel
theorem dX12_look_15 : decode cX12_look 15 = .ok (.aload_n 0, 1) := by decide +kernel
theorem dX12_look_16 : decode cX12_look 16 = .ok (.getfield 178, 3) := by decide +kernel
theorem dX12_look_19 : decode cX12_look 19 = .ok (.baload, 1) := by decide +kernel
theorem dX12_look_20 : decode cX12_look 20 = .ok (.goto 4, 3) := by decide +kernel
theorem dX12_look_23 : decode cX12_look 23 = .ok (.iconst (-1), 1) := by decide +kernel
theorem dX12_look_24 : decode cX12_look 24 = .ok (.ireturn, 1) := by decide +kernel
theorem dX12_wrong_0 : decode cX12_wrong 0 = .ok (.aload_n 0, 1) := by decide +kernel
theorem dX12_wrong_1 : decode cX12_wrong 1 = .ok (.getfield 181, 3) := by decide +kernel
theorem dX12_wrong_4 : decode cX12_wrong 4 = .ok (.ifCond .ge 11, 3) := by decide +kernel
theorem dX12_wrong_7 : decode cX12_wrong 7 = .ok (.aload_n 0, 1) := by decide +kernel
theorem dX12_wrong_8 : decode cX12_wrong 8 = .ok (.aload_n 0, 1) := by decide +kernel
theorem dX12_wrong_9 : decode cX12_wrong 9 = .ok (.getfield 178, 3) := by decide +kernel
theorem dX12_wrong_12 : decode cX12_wrong 12 = .ok (.putfield 181, 3) := by decide +kernel
theorem dX12_wrong_15 : decode cX12_wrong 15 = .ok (.return_, 1) := by decide +kernel
theorem dX12_addStep_0 : decode cX12_addStep 0 = .ok (.aload_n 0, 1) := by decide +kernel
theorem dX12_addStep_1 : decode cX12_addStep 1 = .ok (.getfield 41, 3) := by decide +kernel
theorem dX12_addStep_4 : decode cX12_addStep 4 = .ok (.sipush 130, 3) := by decide +kernel
theorem dX12_addStep_7 : decode cX12_addStep 7 = .ok (.aload_n 0, 1) := by decide +kernel
theorem dX12_addStep_8 : decode cX12_addStep 8 = .ok (.getfield 184, 3) := by decide +kernel
theorem dX12_addStep_11 : decode cX12_addStep 11 = .ok (.iadd, 1) := by decide +kernel
theorem dX12_addStep_12 : decode cX12_addStep 12 = .ok (.iload_n 1, 1) := by decide +kernel
theorem dX12_addStep_13 : decode cX12_addStep 13 = .ok (.i2b, 1) := by decide +kernel
theorem dX12_addStep_14 : decode cX12_addStep 14 = .ok (.bastore, 1) := by decide +kernel
theorem dX12_addStep_15 : decode cX12_addStep 15 = .ok (.aload_n 0, 1) := by decide +kernel
theorem dX12_addStep_16 : decode cX12_addStep 16 = .ok (.getfield 44, 3) := by decide +kernel
theorem dX12_addStep_19 : decode cX12_addStep 19 = .ok (.sipush 130, 3) := by decide +kernel
theorem dX12_addStep_22 : decode cX12_addStep 22 = .ok (.aload_n 0, 1) := by decide +kernel
theorem dX12_addStep_23 : decode cX12_addStep 23 = .ok (.getfield 184, 3) := by decide +kernel
theorem dX12_addStep_26 : decode cX12_addStep 26 = .ok (.iadd, 1) := by decide +kernel
theorem dX12_addStep_27 : decode cX12_addStep 27 = .ok (.iload_n 2, 1) := by decide +kernel
theorem dX12_addStep_28 : decode cX12_addStep 28 = .ok (.iastore, 1) := by decide +kernel
theorem dX12_addStep_29 : decode cX12_addStep 29 = .ok (.aload_n 0, 1) := by decide +kernel
theorem dX12_addStep_30 : decode cX12_addStep 30 = .ok (.dup, 1) := by decide +kernel
theorem dX12_addStep_31 : decode cX12_addStep 31 = .ok (.getfield 184, 3) := by decide +kernel
theorem dX12_addStep_34 : decode cX12_addStep 34 = .ok (.iconst 1, 1) := by decide +kernel
theorem dX12_addStep_35 : decode cX12_addStep 35 = .ok (.iadd, 1) := by decide +kernel
theorem dX12_addStep_36 : decode cX12_addStep 36 = .ok (.putfield 184, 3) := by decide +kernel
theorem dX12_addStep_39 : decode cX12_addStep 39 = .ok (.return_, 1) := by decide +kernel
theorem dX12_nameOf_0 : decode cX12_nameOf 0 = .ok (.iload_n 0, 1) := by decide +kernel
theorem dX12_nameOf_1 : decode cX12_nameOf 1 = .ok (.tableswitch 99 98 115 #[91, 97, 87, 99, 99, 99, 99, 99, 99, 99, 99, 99, 95, 99, 99, 99, 89, 93], 87) := by decide +kernel
theorem dX12_nameOf_88 : decode cX12_nameOf 88 = .ok (.iconst 0, 1) := by decide +kernel
theorem dX12_nameOf_89 : decode cX12_nameOf 89 = .ok (.ireturn, 1) := by decide +kernel
theorem dX12_nameOf_90 : decode cX12_nameOf 90 = .ok (.iconst 1, 1) := by decide +kernel
theorem dX12_nameOf_91 : decode cX12_nameOf 91 = .ok (.ireturn, 1) := by decide +kernel
theorem dX12_nameOf_92 : decode cX12_nameOf 92 = .ok (.iconst 2, 1) := by decide +kernel
theorem dX12_nameOf_93 : decode cX12_nameOf 93 = .ok (.ireturn, 1) := by decide +kernel
theorem dX12_nameOf_94 : decode cX12_nameOf 94 = .ok (.iconst 3, 1) := by decide +kernel
theorem dX12_nameOf_95 : decode cX12_nameOf 95 = .ok (.ireturn, 1) := by decide +kernel
theorem dX12_nameOf_96 : decode cX12_nameOf 96 = .ok (.iconst 4, 1) := by decide +kernel
theorem dX12_nameOf_97 : decode cX12_nameOf 97 = .ok (.ireturn, 1) := by decide +kernel
theorem dX12_nameOf_98 : decode cX12_nameOf 98 = .ok (.iconst 5, 1) := by decide +kernel
theorem dX12_nameOf_99 : decode cX12_nameOf 99 = .ok (.ireturn, 1) := by decide +kernel
theorem dX12_nameOf_100 : decode cX12_nameOf 100 = .ok (.iconst (-1), 1) := by decide +kernel
theorem dX12_nameOf_101 : decode cX12_nameOf 101 = .ok (.ireturn, 1) := by decide +kernel
theorem dX12_opens_0 : decode cX12_opens 0 = .ok (.aload_n 0, 1) := by decide +kernel
theorem dX12_opens_1 : decode cX12_opens 1 = .ok (.getfield 187, 3) := by decide +kernel
theorem dX12_opens_4 : decode cX12_opens 4 = .ok (.bipush 6, 2) := by decide +kernel
theorem dX12_opens_6 : decode cX12_opens 6 = .ok (.if_icmp .ne 9, 3) := by decide +kernel
theorem dX12_opens_9 : decode cX12_opens 9 = .ok (.aload_n 0, 1) := by decide +kernel
theorem dX12_opens_10 : decode cX12_opens 10 = .ok (.invokevirtual 190, 3) := by decide +kernel
theorem dX12_opens_13 : decode cX12_opens 13 = .ok (.iconst 0, 1) := by decide +kernel
theorem dX12_opens_14 : decode cX12_opens 14 = .ok (.ireturn, 1) := by decide +kernel
theorem dX12_opens_15 : decode cX12_opens 15 = .ok (.aload_n 0, 1) := by decide +kernel
theorem dX12_opens_16 : decode cX12_opens 16 = .ok (.dup, 1) := by decide +kernel
theorem dX12_opens_17 : decode cX12_opens 17 = .ok (.getfield 187, 3) := by decide +kernel
theorem dX12_opens_20 : decode cX12_opens 20 = .ok (.iconst 1, 1) := by decide +kernel
theorem dX12_opens_21 : decode cX12_opens 21 = .ok (.iadd, 1) := by decide +kernel
theorem dX12_opens_22 : decode cX12_opens 22 = .ok (.putfield 187, 3) := by decide +kernel
theorem dX12_opens_25 : decode cX12_opens 25 = .ok (.aload_n 0, 1) := by decide +kernel
theorem dX12_opens_26 : decode cX12_opens 26 = .ok (.dup, 1) := by decide +kernel
theorem dX12_opens_27 : decode cX12_opens 27 = .ok (.getfield 178, 3) := by decide +kernel
theorem dX12_opens_30 : decode cX12_opens 30 = .ok (.iconst 1, 1) := by decide +kernel
theorem dX12_opens_31 : decode cX12_opens 31 = .ok (.iadd, 1) := by decide +kernel
theorem dX12_opens_32 : decode cX12_opens 32 = .ok (.putfield 178, 3) := by decide +kernel
theorem dX12_opens_35 : decode cX12_opens 35 = .ok (.iconst 1, 1) := by decide +kernel
theorem dX12_opens_36 : decode cX12_opens 36 = .ok (.ireturn, 1) := by decide +kernel
theorem dX12_figure_0 : decode cX12_figure 0 = .ok (.iconst 0, 1) := by decide +kernel
theorem dX12_figure_1 : decode cX12_figure 1 = .ok (.istore_n 1, 1) := by decide +kernel
theorem dX12_figure_2 : decode cX12_figure 2 = .ok (.iconst 0, 1) := by decide +kernel
theorem dX12_figure_3 : decode cX12_figure 3 = .ok (.istore_n 2, 1) := by decide +kernel
theorem dX12_figure_4 : decode cX12_figure 4 = .ok (.iload_n 2, 1) := by decide +kernel
theorem dX12_figure_5 : decode cX12_figure 5 = .ok (.iconst 4, 1) := by decide +kernel
theorem dX12_figure_6 : decode cX12_figure 6 = .ok (.if_icmp .ge 46, 3) := by decide +kernel
theorem dX12_figure_9 : decode cX12_figure 9 = .ok (.aload_n 0, 1) := by decide +kernel
theorem dX12_figure_10 : decode cX12_figure 10 = .ok (.invokevirtual 193, 3) := by decide +kernel
theorem dX12_figure_13 : decode cX12_figure 13 = .ok (.bipush 48, 2) := by decide +kernel
theorem dX12_figure_15 : decode cX12_figure 15 = .ok (.bipush 57, 2) := by decide +kernel
theorem dX12_figure_17 : decode cX12_figure 17 = .ok (.invokestatic 128, 3) := by decide +kernel
theorem dX12_figure_20 : decode cX12_figure 20 = .ok (.ifCond .eq 32, 3) := by decide +kernel
theorem dX12_figure_23 : decode cX12_figure 23 = .ok (.bipush 10, 2) := by decide +kernel
theorem dX12_figure_25 : decode cX12_figure 25 = .ok (.iload_n 1, 1) := by decide +kernel
theorem dX12_figure_26 : decode cX12_figure 26 = .ok (.imul, 1) := by decide +kernel
theorem dX12_figure_27 : decode cX12_figure 27 = .ok (.aload_n 0, 1) := by decide +kernel
theorem dX12_figure_28 : decode cX12_figure 28 = .ok (.invokevirtual 193, 3) := by decide +kernel
theorem dX12_figure_31 : decode cX12_figure 31 = .ok (.iadd, 1) := by decide +kernel
theorem dX12_figure_32 : decode cX12_figure 32 = .ok (.bipush 48, 2) := by decide +kernel
theorem dX12_figure_34 : decode cX12_figure 34 = .ok (.isub, 1) := by decide +kernel
theorem dX12_figure_35 : decode cX12_figure 35 = .ok (.istore_n 1, 1) := by decide +kernel
theorem dX12_figure_36 : decode cX12_figure 36 = .ok (.iinc 2 1, 3) := by decide +kernel
theorem dX12_figure_39 : decode cX12_figure 39 = .ok (.aload_n 0, 1) := by decide +kernel
theorem dX12_figure_40 : decode cX12_figure 40 = .ok (.dup, 1) := by decide +kernel
theorem dX12_figure_41 : decode cX12_figure 41 = .ok (.getfield 178, 3) := by decide +kernel
theorem dX12_figure_44 : decode cX12_figure 44 = .ok (.iconst 1, 1) := by decide +kernel
theorem dX12_figure_45 : decode cX12_figure 45 = .ok (.iadd, 1) := by decide +kernel
theorem dX12_figure_46 : decode cX12_figure 46 = .ok (.putfield 178, 3) := by decide +kernel
theorem dX12_figure_49 : decode cX12_figure 49 = .ok (.goto (-45), 3) := by decide +kernel
theorem dX12_figure_52 : decode cX12_figure 52 = .ok (.iload_n 2, 1) := by decide +kernel
theorem dX12_figure_53 : decode cX12_figure 53 = .ok (.ifCond .eq 17, 3) := by decide +kernel
theorem dX12_figure_56 : decode cX12_figure 56 = .ok (.aload_n 0, 1) := by decide +kernel
theorem dX12_figure_57 : decode cX12_figure 57 = .ok (.invokevirtual 193, 3) := by decide +kernel
theorem dX12_figure_60 : decode cX12_figure 60 = .ok (.bipush 48, 2) := by decide +kernel
theorem dX12_figure_62 : decode cX12_figure 62 = .ok (.bipush 57, 2) := by decide +kernel
theorem dX12_figure_64 : decode cX12_figure 64 = .ok (.invokestatic 128, 3) := by decide +kernel
theorem dX12_figure_67 : decode cX12_figure 67 = .ok (.ifCond .eq 7, 3) := by decide +kernel
theorem dX12_figure_70 : decode cX12_figure 70 = .ok (.aload_n 0, 1) := by decide +kernel
theorem dX12_figure_71 : decode cX12_figure 71 = .ok (.invokevirtual 190, 3) := by decide +kernel
theorem dX12_figure_74 : decode cX12_figure 74 = .ok (.aload_n 0, 1) := by decide +kernel
theorem dX12_figure_75 : decode cX12_figure 75 = .ok (.iconst 1, 1) := by decide +kernel
theorem dX12_figure_76 : decode cX12_figure 76 = .ok (.iload_n 1, 1) := by decide +kernel
theorem dX12_figure_77 : decode cX12_figure 77 = .ok (.invokevirtual 197, 3) := by decide +kernel
theorem dX12_figure_80 : decode cX12_figure 80 = .ok (.return_, 1) := by decide +kernel
theorem dX12_operand_0 : decode cX12_operand 0 = .ok (.aload_n 0, 1) := by decide +kernel
theorem dX12_operand_1 : decode cX12_operand 1 = .ok (.invokevirtual 193, 3) := by decide +kernel
theorem dX12_operand_4 : decode cX12_operand 4 = .ok (.istore_n 1, 1) := by decide +kernel
theorem dX12_operand_5 : decode cX12_operand 5 = .ok (.iload_n 1, 1) := by decide +kernel
theorem dX12_operand_6 : decode cX12_operand 6 = .ok (.invokestatic 201, 3) := by decide +kernel
theorem dX12_operand_9 : decode cX12_operand 9 = .ok (.ifCond .lt 25, 3) := by decide +kernel
theorem dX12_operand_12 : decode cX12_operand 12 = .ok (.aload_n 0, 1) := by decide +kernel
theorem dX12_operand_13 : decode cX12_operand 13 = .ok (.iconst 2, 1) := by decide +kernel
theorem dX12_operand_14 : decode cX12_operand 14 = .ok (.iload_n 1, 1) := by decide +kernel
theorem dX12_operand_15 : decode cX12_operand 15 = .ok (.invokestatic 201, 3) := by decide +kernel
theorem dX12_operand_18 : decode cX12_operand 18 = .ok (.invokevirtual 197, 3) := by decide +kernel
theorem dX12_operand_21 : decode cX12_operand 21 = .ok (.aload_n 0, 1) := by decide +kernel
theorem dX12_operand_22 : decode cX12_operand 22 = .ok (.dup, 1) := by decide +kernel
theorem dX12_operand_23 : decode cX12_operand 23 = .ok (.getfield 178, 3) := by decide +kernel
theorem dX12_operand_26 : decode cX12_operand 26 = .ok (.iconst 1, 1) := by decide +kernel
theorem dX12_operand_27 : decode cX12_operand 27 = .ok (.iadd, 1) := by decide +kernel
theorem dX12_operand_28 : decode cX12_operand 28 = .ok (.putfield 178, 3) := by decide +kernel
theorem dX12_operand_31 : decode cX12_operand 31 = .ok (.goto 123, 3) := by decide +kernel
theorem dX12_operand_34 : decode cX12_operand 34 = .ok (.iload_n 1, 1) := by decide +kernel
theorem dX12_operand_35 : decode cX12_operand 35 = .ok (.bipush 33, 2) := by decide +kernel
theorem dX12_operand_37 : decode cX12_operand 37 = .ok (.if_icmp .eq 9, 3) := by decide +kernel
theorem dX12_operand_40 : decode cX12_operand 40 = .ok (.iload_n 1, 1) := by decide +kernel
theorem dX12_operand_41 : decode cX12_operand 41 = .ok (.bipush 45, 2) := by decide +kernel
theorem dX12_operand_43 : decode cX12_operand 43 = .ok (.if_icmp .ne 44, 3) := by decide +kernel
theorem dX12_operand_46 : decode cX12_operand 46 = .ok (.aload_n 0, 1) := by decide +kernel
theorem dX12_operand_47 : decode cX12_operand 47 = .ok (.invokevirtual 205, 3) := by decide +kernel
theorem dX12_operand_50 : decode cX12_operand 50 = .ok (.ifCond .ne 4, 3) := by decide +kernel
theorem dX12_operand_53 : decode cX12_operand 53 = .ok (.return_, 1) := by decide +kernel
theorem dX12_operand_54 : decode cX12_operand 54 = .ok (.aload_n 0, 1) := by decide +kernel
theorem dX12_operand_55 : decode cX12_operand 55 = .ok (.invokevirtual 209, 3) := by decide +kernel
theorem dX12_operand_58 : decode cX12_operand 58 = .ok (.aload_n 0, 1) := by decide +kernel
theorem dX12_operand_59 : decode cX12_operand 59 = .ok (.dup, 1) := by decide +kernel
theorem dX12_operand_60 : decode cX12_operand 60 = .ok (.getfield 187, 3) := by decide +kernel
theorem dX12_operand_63 : decode cX12_operand 63 = .ok (.iconst 1, 1) := by decide +kernel
theorem dX12_operand_64 : decode cX12_operand 64 = .ok (.isub, 1) := by decide +kernel
theorem dX12_operand_65 : decode cX12_operand 65 = .ok (.putfield 187, 3) := by decide +kernel
theorem dX12_operand_68 : decode cX12_operand 68 = .ok (.aload_n 0, 1) := by decide +kernel
theorem dX12_operand_69 : decode cX12_operand 69 = .ok (.iload_n 1, 1) := by decide +kernel
theorem dX12_operand_70 : decode cX12_operand 70 = .ok (.bipush 33, 2) := by decide +kernel
theorem dX12_operand_72 : decode cX12_operand 72 = .ok (.if_icmp .ne 7, 3) := by decide +kernel
theorem dX12_operand_75 : decode cX12_operand 75 = .ok (.iconst 3, 1) := by decide +kernel
theorem dX12_operand_76 : decode cX12_operand 76 = .ok (.goto 4, 3) := by decide +kernel
theorem dX12_operand_79 : decode cX12_operand 79 = .ok (.iconst 4, 1) := by decide +kernel
theorem dX12_operand_80 : decode cX12_operand 80 = .ok (.iconst 0, 1) := by decide +kernel
theorem dX12_operand_81 : decode cX12_operand 81 = .ok (.invokevirtual 197, 3) := by decide +kernel
theorem dX12_operand_84 : decode cX12_operand 84 = .ok (.goto 70, 3) := by decide +kernel
theorem dX12_operand_87 : decode cX12_operand 87 = .ok (.iload_n 1, 1) := by decide +kernel
theorem dX12_operand_88 : decode cX12_operand 88 = .ok (.bipush 40, 2) := by decide +kernel
theorem dX12_operand_90 : decode cX12_operand 90 = .ok (.if_icmp .ne 60, 3) := by decide +kernel
theorem dX12_operand_93 : decode cX12_operand 93 = .ok (.aload_n 0, 1) := by decide +kernel
theorem dX12_operand_94 : decode cX12_operand 94 = .ok (.invokevirtual 205, 3) := by decide +kernel
theorem dX12_operand_97 : decode cX12_operand 97 = .ok (.ifCond .ne 4, 3) := by decide +kernel
theorem dX12_operand_100 : decode cX12_operand 100 = .ok (.return_, 1) := by decide +kernel
theorem dX12_operand_101 : decode cX12_operand 101 = .ok (.aload_n 0, 1) := by decide +kernel
theorem dX12_operand_102 : decode cX12_operand 102 = .ok (.invokevirtual 212, 3) := by decide +kernel
theorem dX12_operand_105 : decode cX12_operand 105 = .ok (.aload_n 0, 1) := by decide +kernel
theorem dX12_operand_106 : decode cX12_operand 106 = .ok (.getfield 181, 3) := by decide +kernel
theorem dX12_operand_109 : decode cX12_operand 109 = .ok (.ifCond .lt 4, 3) := by decide +kernel
theorem dX12_operand_112 : decode cX12_operand 112 = .ok (.return_, 1) := by decide +kernel
theorem dX12_operand_113 : decode cX12_operand 113 = .ok (.aload_n 0, 1) := by decide +kernel
theorem dX12_operand_114 : decode cX12_operand 114 = .ok (.invokevirtual 193, 3) := by decide +kernel
theorem dX12_operand_117 : decode cX12_operand 117 = .ok (.bipush 41, 2) := by decide +kernel
theorem dX12_operand_119 : decode cX12_operand 119 = .ok (.if_icmp .eq 8, 3) := by decide +kernel
theorem dX12_operand_122 : decode cX12_operand 122 = .ok (.aload_n 0, 1) := by decide +kernel
theorem dX12_operand_123 : decode cX12_operand 123 = .ok (.invokevirtual 190, 3) := by decide +kernel
theorem dX12_operand_126 : decode cX12_operand 126 = .ok (.return_, 1) := by decide +kernel
theorem dX12_operand_127 : decode cX12_operand 127 = .ok (.aload_n 0, 1) := by decide +kernel
theorem dX12_operand_128 : decode cX12_operand 128 = .ok (.dup, 1) := by decide +kernel
theorem dX12_operand_129 : decode cX12_operand 129 = .ok (.getfield 178, 3) := by decide +kernel
theorem dX12_operand_132 : decode cX12_operand 132 = .ok (.iconst 1, 1) := by decide +kernel
theorem dX12_operand_133 : decode cX12_operand 133 = .ok (.iadd, 1) := by decide +kernel
theorem dX12_operand_134 : decode cX12_operand 134 = .ok (.putfield 178, 3) := by decide +kernel
theorem dX12_operand_137 : decode cX12_operand 137 = .ok (.aload_n 0, 1) := by decide +kernel
theorem dX12_operand_138 : decode cX12_operand 138 = .ok (.dup, 1) := by decide +kernel
theorem dX12_operand_139 : decode cX12_operand 139 = .ok (.getfield 187, 3) := by decide +kernel
theorem dX12_operand_142 : decode cX12_operand 142 = .ok (.iconst 1, 1) := by decide +kernel
theorem dX12_operand_143 : decode cX12_operand 143 = .ok (.isub, 1) := by decide +kernel
theorem dX12_operand_144 : decode cX12_operand 144 = .ok (.putfield 187, 3) := by decide +kernel
theorem dX12_operand_147 : decode cX12_operand 147 = .ok (.goto 7, 3) := by decide +kernel
theorem dX12_operand_150 : decode cX12_operand 150 = .ok (.aload_n 0, 1) := by decide +kernel
theorem dX12_operand_151 : decode cX12_operand 151 = .ok (.invokevirtual 215, 3) := by decide +kernel
theorem dX12_operand_154 : decode cX12_operand 154 = .ok (.return_, 1) := by decide +kernel
theorem dX12_product_0 : decode cX12_product 0 = .ok (.aload_n 0, 1) := by decide +kernel
theorem dX12_product_1 : decode cX12_product 1 = .ok (.invokevirtual 209, 3) := by decide +kernel
theorem dX12_product_4 : decode cX12_product 4 = .ok (.aload_n 0, 1) := by decide +kernel
theorem dX12_product_5 : decode cX12_product 5 = .ok (.getfield 181, 3) := by decide +kernel
theorem dX12_product_8 : decode cX12_product 8 = .ok (.ifCond .ge 58, 3) := by decide +kernel
theorem dX12_product_11 : decode cX12_product 11 = .ok (.aload_n 0, 1) := by decide +kernel
theorem dX12_product_12 : decode cX12_product 12 = .ok (.invokevirtual 193, 3) := by decide +kernel
theorem dX12_product_15 : decode cX12_product 15 = .ok (.bipush 42, 2) := by decide +kernel
theorem dX12_product_17 : decode cX12_product 17 = .ok (.if_icmp .eq 21, 3) := by decide +kernel
theorem dX12_product_20 : decode cX12_product 20 = .ok (.aload_n 0, 1) := by decide +kernel
theorem dX12_product_21 : decode cX12_product 21 = .ok (.invokevirtual 193, 3) := by decide +kernel
theorem dX12_product_24 : decode cX12_product 24 = .ok (.bipush 47, 2) := by decide +kernel
theorem dX12_product_26 : decode cX12_product 26 = .ok (.if_icmp .eq 12, 3) := by decide +kernel
theorem dX12_product_29 : decode cX12_product 29 = .ok (.aload_n 0, 1) := by decide +kernel
theorem dX12_product_30 : decode cX12_product 30 = .ok (.invokevirtual 193, 3) := by decide +kernel
theorem dX12_product_33 : decode cX12_product 33 = .ok (.bipush 37, 2) := by decide +kernel
theorem dX12_product_35 : decode cX12_product 35 = .ok (.if_icmp .ne 31, 3) := by decide +kernel
theorem dX12_product_38 : decode cX12_product 38 = .ok (.aload_n 0, 1) := by decide +kernel
theorem dX12_product_39 : decode cX12_product 39 = .ok (.invokevirtual 193, 3) := by decide +kernel
theorem dX12_product_42 : decode cX12_product 42 = .ok (.istore_n 1, 1) := by decide +kernel
theorem dX12_product_43 : decode cX12_product 43 = .ok (.aload_n 0, 1) := by decide +kernel
theorem dX12_product_44 : decode cX12_product 44 = .ok (.dup, 1) := by decide +kernel
theorem dX12_product_45 : decode cX12_product 45 = .ok (.getfield 178, 3) := by decide +kernel
theorem dX12_product_48 : decode cX12_product 48 = .ok (.iconst 1, 1) := by decide +kernel
theorem dX12_product_49 : decode cX12_product 49 = .ok (.iadd, 1) := by decide +kernel
theorem dX12_product_50 : decode cX12_product 50 = .ok (.putfield 178, 3) := by decide +kernel
theorem dX12_product_53 : decode cX12_product 53 = .ok (.aload_n 0, 1) := by decide +kernel
theorem dX12_product_54 : decode cX12_product 54 = .ok (.invokevirtual 209, 3) := by decide +kernel
theorem dX12_product_57 : decode cX12_product 57 = .ok (.aload_n 0, 1) := by decide +kernel
theorem dX12_product_58 : decode cX12_product 58 = .ok (.iload_n 1, 1) := by decide +kernel
theorem dX12_product_59 : decode cX12_product 59 = .ok (.iconst 0, 1) := by decide +kernel
theorem dX12_product_60 : decode cX12_product 60 = .ok (.invokevirtual 197, 3) := by decide +kernel
theorem dX12_product_63 : decode cX12_product 63 = .ok (.goto (-59), 3) := by decide +kernel
theorem dX12_product_66 : decode cX12_product 66 = .ok (.return_, 1) := by decide +kernel
theorem dX12_sum_0 : decode cX12_sum 0 = .ok (.aload_n 0, 1) := by decide +kernel
theorem dX12_sum_1 : decode cX12_sum 1 = .ok (.invokevirtual 218, 3) := by decide +kernel
theorem dX12_sum_4 : decode cX12_sum 4 = .ok (.aload_n 0, 1) := by decide +kernel
theorem dX12_sum_5 : decode cX12_sum 5 = .ok (.getfield 181, 3) := by decide +kernel
theorem dX12_sum_8 : decode cX12_sum 8 = .ok (.ifCond .ge 49, 3) := by decide +kernel
theorem dX12_sum_11 : decode cX12_sum 11 = .ok (.aload_n 0, 1) := by decide +kernel
theorem dX12_sum_12 : decode cX12_sum 12 = .ok (.invokevirtual 193, 3) := by decide +kernel
theorem dX12_sum_15 : decode cX12_sum 15 = .ok (.bipush 43, 2) := by decide +kernel
theorem dX12_sum_17 : decode cX12_sum 17 = .ok (.if_icmp .eq 12, 3) := by decide +kernel
theorem dX12_sum_20 : decode cX12_sum 20 = .ok (.aload_n 0, 1) := by decide +kernel
theorem dX12_sum_21 : decode cX12_sum 21 = .ok (.invokevirtual 193, 3) := by decide +kernel
theorem dX12_sum_24 : decode cX12_sum 24 = .ok (.bipush 45, 2) := by decide +kernel
theorem dX12_sum_26 : decode cX12_sum 26 = .ok (.if_icmp .ne 31, 3) := by decide +kernel
theorem dX12_sum_29 : decode cX12_sum 29 = .ok (.aload_n 0, 1) := by decide +kernel
theorem dX12_sum_30 : decode cX12_sum 30 = .ok (.invokevirtual 193, 3) := by decide +kernel
theorem dX12_sum_33 : decode cX12_sum 33 = .ok (.istore_n 1, 1) := by decide +kernel
theorem dX12_sum_34 : decode cX12_sum 34 = .ok (.aload_n 0, 1) := by decide +kernel
theorem dX12_sum_35 : decode cX12_sum 35 = .ok (.dup, 1) := by decide +kernel
theorem dX12_sum_36 : decode cX12_sum 36 = .ok (.getfield 178, 3) := by decide +kernel
theorem dX12_sum_39 : decode cX12_sum 39 = .ok (.iconst 1, 1) := by decide +kernel
theorem dX12_sum_40 : decode cX12_sum 40 = .ok (.iadd, 1) := by decide +kernel
theorem dX12_sum_41 : decode cX12_sum 41 = .ok (.putfield 178, 3) := by decide +kernel
theorem dX12_sum_44 : decode cX12_sum 44 = .ok (.aload_n 0, 1) := by decide +kernel
theorem dX12_sum_45 : decode cX12_sum 45 = .ok (.invokevirtual 218, 3) := by decide +kernel
theorem dX12_sum_48 : decode cX12_sum 48 = .ok (.aload_n 0, 1) := by decide +kernel
theorem dX12_sum_49 : decode cX12_sum 49 = .ok (.iload_n 1, 1) := by decide +kernel
theorem dX12_sum_50 : decode cX12_sum 50 = .ok (.iconst 0, 1) := by decide +kernel
theorem dX12_sum_51 : decode cX12_sum 51 = .ok (.invokevirtual 197, 3) := by decide +kernel
theorem dX12_sum_54 : decode cX12_sum 54 = .ok (.goto (-50), 3) := by decide +kernel
theorem dX12_sum_57 : decode cX12_sum 57 = .ok (.return_, 1) := by decide +kernel
theorem dX12_compared_0 : decode cX12_compared 0 = .ok (.aload_n 0, 1) := by decide +kernel
theorem dX12_compared_1 : decode cX12_compared 1 = .ok (.invokevirtual 221, 3) := by decide +kernel
theorem dX12_compared_4 : decode cX12_compared 4 = .ok (.aload_n 0, 1) := by decide +kernel
theorem dX12_compared_5 : decode cX12_compared 5 = .ok (.invokevirtual 193, 3) := by decide +kernel
theorem dX12_compared_8 : decode cX12_compared 8 = .ok (.istore_n 1, 1) := by decide +kernel
theorem dX12_compared_9 : decode cX12_compared 9 = .ok (.aload_n 0, 1) := by decide +kernel
theorem dX12_compared_10 : decode cX12_compared 10 = .ok (.getfield 181, 3) := by decide +kernel
theorem dX12_compared_13 : decode cX12_compared 13 = .ok (.ifCond .ge 21, 3) := by decide +kernel
theorem dX12_compared_16 : decode cX12_compared 16 = .ok (.iload_n 1, 1) := by decide +kernel
theorem dX12_compared_17 : decode cX12_compared 17 = .ok (.bipush 60, 2) := by decide +kernel
theorem dX12_compared_19 : decode cX12_compared 19 = .ok (.if_icmp .eq 16, 3) := by decide +kernel
theorem dX12_compared_22 : decode cX12_compared 22 = .ok (.iload_n 1, 1) := by decide +kernel
theorem dX12_compared_23 : decode cX12_compared 23 = .ok (.bipush 61, 2) := by decide +kernel
theorem dX12_compared_25 : decode cX12_compared 25 = .ok (.if_icmp .eq 10, 3) := by decide +kernel
theorem dX12_compared_28 : decode cX12_compared 28 = .ok (.iload_n 1, 1) := by decide +kernel
theorem dX12_compared_29 : decode cX12_compared 29 = .ok (.bipush 62, 2) := by decide +kernel
theorem dX12_compared_31 : decode cX12_compared 31 = .ok (.if_icmp .eq 4, 3) := by decide +kernel
theorem dX12_compared_34 : decode cX12_compared 34 = .ok (.return_, 1) := by decide +kernel
theorem dX12_compared_35 : decode cX12_compared 35 = .ok (.aload_n 0, 1) := by decide +kernel
theorem dX12_compared_36 : decode cX12_compared 36 = .ok (.dup, 1) := by decide +kernel
theorem dX12_compared_37 : decode cX12_compared 37 = .ok (.getfield 178, 3) := by decide +kernel
theorem dX12_compared_40 : decode cX12_compared 40 = .ok (.iconst 1, 1) := by decide +kernel
theorem dX12_compared_41 : decode cX12_compared 41 = .ok (.iadd, 1) := by decide +kernel
theorem dX12_compared_42 : decode cX12_compared 42 = .ok (.putfield 178, 3) := by decide +kernel
theorem dX12_compared_45 : decode cX12_compared 45 = .ok (.aload_n 0, 1) := by decide +kernel
theorem dX12_compared_46 : decode cX12_compared 46 = .ok (.invokevirtual 221, 3) := by decide +kernel
theorem dX12_compared_49 : decode cX12_compared 49 = .ok (.aload_n 0, 1) := by decide +kernel
theorem dX12_compared_50 : decode cX12_compared 50 = .ok (.iload_n 1, 1) := by decide +kernel
theorem dX12_compared_51 : decode cX12_compared 51 = .ok (.iconst 0, 1) := by decide +kernel
theorem dX12_compared_52 : decode cX12_compared 52 = .ok (.invokevirtual 197, 3) := by decide +kernel
theorem dX12_compared_55 : decode cX12_compared 55 = .ok (.return_, 1) := by decide +kernel
theorem dX12_both_0 : decode cX12_both 0 = .ok (.aload_n 0, 1) := by decide +kernel
theorem dX12_both_1 : decode cX12_both 1 = .ok (.invokevirtual 224, 3) := by decide +kernel
theorem dX12_both_4 : decode cX12_both 4 = .ok (.aload_n 0, 1) := by decide +kernel
theorem dX12_both_5 : decode cX12_both 5 = .ok (.getfield 181, 3) := by decide +kernel
theorem dX12_both_8 : decode cX12_both 8 = .ok (.ifCond .ge 36, 3) := by decide +kernel
theorem dX12_both_11 : decode cX12_both 11 = .ok (.aload_n 0, 1) := by decide +kernel
theorem dX12_both_12 : decode cX12_both 12 = .ok (.invokevirtual 193, 3) := by decide +kernel
theorem dX12_both_15 : decode cX12_both 15 = .ok (.bipush 38, 2) := by decide +kernel
theorem dX12_both_17 : decode cX12_both 17 = .ok (.if_icmp .ne 27, 3) := by decide +kernel
theorem dX12_both_20 : decode cX12_both 20 = .ok (.aload_n 0, 1) := by decide +kernel
theorem dX12_both_21 : decode cX12_both 21 = .ok (.dup, 1) := by decide +kernel
theorem dX12_both_22 : decode cX12_both 22 = .ok (.getfield 178, 3) := by decide +kernel
theorem dX12_both_25 : decode cX12_both 25 = .ok (.iconst 1, 1) := by decide +kernel
theorem dX12_both_26 : decode cX12_both 26 = .ok (.iadd, 1) := by decide +kernel
theorem dX12_both_27 : decode cX12_both 27 = .ok (.putfield 178, 3) := by decide +kernel
theorem dX12_both_30 : decode cX12_both 30 = .ok (.aload_n 0, 1) := by decide +kernel
theorem dX12_both_31 : decode cX12_both 31 = .ok (.invokevirtual 224, 3) := by decide +kernel
theorem dX12_both_34 : decode cX12_both 34 = .ok (.aload_n 0, 1) := by decide +kernel
theorem dX12_both_35 : decode cX12_both 35 = .ok (.bipush 38, 2) := by decide +kernel
theorem dX12_both_37 : decode cX12_both 37 = .ok (.iconst 0, 1) := by decide +kernel
theorem dX12_both_38 : decode cX12_both 38 = .ok (.invokevirtual 197, 3) := by decide +kernel
theorem dX12_both_41 : decode cX12_both 41 = .ok (.goto (-37), 3) := by decide +kernel
theorem dX12_both_44 : decode cX12_both 44 = .ok (.return_, 1) := by decide +kernel
theorem dX12_either_0 : decode cX12_either 0 = .ok (.aload_n 0, 1) := by decide +kernel
theorem dX12_either_1 : decode cX12_either 1 = .ok (.invokevirtual 227, 3) := by decide +kernel
theorem dX12_either_4 : decode cX12_either 4 = .ok (.aload_n 0, 1) := by decide +kernel
theorem dX12_either_5 : decode cX12_either 5 = .ok (.getfield 181, 3) := by decide +kernel
theorem dX12_either_8 : decode cX12_either 8 = .ok (.ifCond .ge 36, 3) := by decide +kernel
theorem dX12_either_11 : decode cX12_either 11 = .ok (.aload_n 0, 1) := by decide +kernel
theorem dX12_either_12 : decode cX12_either 12 = .ok (.invokevirtual 193, 3) := by decide +kernel
theorem dX12_either_15 : decode cX12_either 15 = .ok (.bipush 124, 2) := by decide +kernel
theorem dX12_either_17 : decode cX12_either 17 = .ok (.if_icmp .ne 27, 3) := by decide +kernel
theorem dX12_either_20 : decode cX12_either 20 = .ok (.aload_n 0, 1) := by decide +kernel
theorem dX12_either_21 : decode cX12_either 21 = .ok (.dup, 1) := by decide +kernel
theorem dX12_either_22 : decode cX12_either 22 = .ok (.getfield 178, 3) := by decide +kernel
theorem dX12_either_25 : decode cX12_either 25 = .ok (.iconst 1, 1) := by decide +kernel
theorem dX12_either_26 : decode cX12_either 26 = .ok (.iadd, 1) := by decide +kernel
theorem dX12_either_27 : decode cX12_either 27 = .ok (.putfield 178, 3) := by decide +kernel
theorem dX12_either_30 : decode cX12_either 30 = .ok (.aload_n 0, 1) := by decide +kernel
theorem dX12_either_31 : decode cX12_either 31 = .ok (.invokevirtual 227, 3) := by decide +kernel
theorem dX12_either_34 : decode cX12_either 34 = .ok (.aload_n 0, 1) := by decide +kernel
theorem dX12_either_35 : decode cX12_either 35 = .ok (.bipush 124, 2) := by decide +kernel
theorem dX12_either_37 : decode cX12_either 37 = .ok (.iconst 0, 1) := by decide +kernel
theorem dX12_either_38 : decode cX12_either 38 = .ok (.invokevirtual 197, 3) := by decide +kernel
theorem dX12_either_41 : decode cX12_either 41 = .ok (.goto (-37), 3) := by decide +kernel
theorem dX12_either_44 : decode cX12_either 44 = .ok (.return_, 1) := by decide +kernel
theorem dX12_oneLine_0 : decode cX12_oneLine 0 = .ok (.bipush 61, 2) := by decide +kernel
theorem dX12_oneLine_2 : decode cX12_oneLine 2 = .ok (.aload_n 0, 1) := by decide +kernel
theorem dX12_oneLine_3 : decode cX12_oneLine 3 = .ok (.getfield 47, 3) := by decide +kernel
theorem dX12_oneLine_6 : decode cX12_oneLine 6 = .ok (.iconst 1, 1) := by decide +kernel
theorem dX12_oneLine_7 : decode cX12_oneLine 7 = .ok (.iaload, 1) := by decide +kernel
theorem dX12_oneLine_8 : decode cX12_oneLine 8 = .ok (.iadd, 1) := by decide +kernel
theorem dX12_oneLine_9 : decode cX12_oneLine 9 = .ok (.istore_n 1, 1) := by decide +kernel
theorem dX12_oneLine_10 : decode cX12_oneLine 10 = .ok (.aload_n 0, 1) := by decide +kernel
theorem dX12_oneLine_11 : decode cX12_oneLine 11 = .ok (.getfield 50, 3) := by decide +kernel
theorem dX12_oneLine_14 : decode cX12_oneLine 14 = .ok (.iload_n 1, 1) := by decide +kernel
theorem dX12_oneLine_15 : decode cX12_oneLine 15 = .ok (.aload_n 0, 1) := by decide +kernel
theorem dX12_oneLine_16 : decode cX12_oneLine 16 = .ok (.getfield 184, 3) := by decide +kernel
theorem dX12_oneLine_19 : decode cX12_oneLine 19 = .ok (.i2s, 1) := by decide +kernel
theorem dX12_oneLine_20 : decode cX12_oneLine 20 = .ok (.sastore, 1) := by decide +kernel
theorem dX12_oneLine_21 : decode cX12_oneLine 21 = .ok (.aload_n 0, 1) := by decide +kernel
theorem dX12_oneLine_22 : decode cX12_oneLine 22 = .ok (.invokevirtual 212, 3) := by decide +kernel
theorem dX12_oneLine_25 : decode cX12_oneLine 25 = .ok (.aload_n 0, 1) := by decide +kernel
theorem dX12_oneLine_26 : decode cX12_oneLine 26 = .ok (.getfield 181, 3) := by decide +kernel
theorem dX12_oneLine_29 : decode cX12_oneLine 29 = .ok (.ifCond .ge 37, 3) := by decide +kernel
theorem dX12_oneLine_32 : decode cX12_oneLine 32 = .ok (.aload_n 0, 1) := by decide +kernel
theorem dX12_oneLine_33 : decode cX12_oneLine 33 = .ok (.invokevirtual 193, 3) := by decide +kernel
theorem dX12_oneLine_36 : decode cX12_oneLine 36 = .ok (.bipush 63, 2) := by decide +kernel
theorem dX12_oneLine_38 : decode cX12_oneLine 38 = .ok (.if_icmp .ne 28, 3) := by decide +kernel
theorem dX12_oneLine_41 : decode cX12_oneLine 41 = .ok (.aload_n 0, 1) := by decide +kernel
theorem dX12_oneLine_42 : decode cX12_oneLine 42 = .ok (.dup, 1) := by decide +kernel
theorem dX12_oneLine_43 : decode cX12_oneLine 43 = .ok (.getfield 178, 3) := by decide +kernel
theorem dX12_oneLine_46 : decode cX12_oneLine 46 = .ok (.iconst 1, 1) := by decide +kernel
theorem dX12_oneLine_47 : decode cX12_oneLine 47 = .ok (.iadd, 1) := by decide +kernel
theorem dX12_oneLine_48 : decode cX12_oneLine 48 = .ok (.putfield 178, 3) := by decide +kernel
theorem dX12_oneLine_51 : decode cX12_oneLine 51 = .ok (.aload_n 0, 1) := by decide +kernel
theorem dX12_oneLine_52 : decode cX12_oneLine 52 = .ok (.getfield 50, 3) := by decide +kernel
theorem dX12_oneLine_55 : decode cX12_oneLine 55 = .ok (.iload_n 1, 1) := by decide +kernel
theorem dX12_oneLine_56 : decode cX12_oneLine 56 = .ok (.aload_n 0, 1) := by decide +kernel
theorem dX12_oneLine_57 : decode cX12_oneLine 57 = .ok (.getfield 184, 3) := by decide +kernel
theorem dX12_oneLine_60 : decode cX12_oneLine 60 = .ok (.i2s, 1) := by decide +kernel
theorem dX12_oneLine_61 : decode cX12_oneLine 61 = .ok (.sastore, 1) := by decide +kernel
theorem dX12_oneLine_62 : decode cX12_oneLine 62 = .ok (.aload_n 0, 1) := by decide +kernel
theorem dX12_oneLine_63 : decode cX12_oneLine 63 = .ok (.invokevirtual 212, 3) := by decide +kernel
theorem dX12_oneLine_66 : decode cX12_oneLine 66 = .ok (.aload_n 0, 1) := by decide +kernel
theorem dX12_oneLine_67 : decode cX12_oneLine 67 = .ok (.getfield 54, 3) := by decide +kernel
theorem dX12_oneLine_70 : decode cX12_oneLine 70 = .ok (.iload_n 1, 1) := by decide +kernel
theorem dX12_oneLine_71 : decode cX12_oneLine 71 = .ok (.aload_n 0, 1) := by decide +kernel
theorem dX12_oneLine_72 : decode cX12_oneLine 72 = .ok (.getfield 184, 3) := by decide +kernel
theorem dX12_oneLine_75 : decode cX12_oneLine 75 = .ok (.i2s, 1) := by decide +kernel
theorem dX12_oneLine_76 : decode cX12_oneLine 76 = .ok (.sastore, 1) := by decide +kernel
theorem dX12_oneLine_77 : decode cX12_oneLine 77 = .ok (.aload_n 0, 1) := by decide +kernel
theorem dX12_oneLine_78 : decode cX12_oneLine 78 = .ok (.getfield 47, 3) := by decide +kernel
theorem dX12_oneLine_81 : decode cX12_oneLine 81 = .ok (.iconst 1, 1) := by decide +kernel
theorem dX12_oneLine_82 : decode cX12_oneLine 82 = .ok (.dup2, 1) := by decide +kernel
theorem dX12_oneLine_83 : decode cX12_oneLine 83 = .ok (.iaload, 1) := by decide +kernel
theorem dX12_oneLine_84 : decode cX12_oneLine 84 = .ok (.iconst 1, 1) := by decide +kernel
theorem dX12_oneLine_85 : decode cX12_oneLine 85 = .ok (.iadd, 1) := by decide +kernel
theorem dX12_oneLine_86 : decode cX12_oneLine 86 = .ok (.iastore, 1) := by decide +kernel
theorem dX12_oneLine_87 : decode cX12_oneLine 87 = .ok (.return_, 1) := by decide +kernel
theorem dX12_readText_0 : decode cX12_readText 0 = .ok (.aload_n 0, 1) := by decide +kernel
theorem dX12_readText_1 : decode cX12_readText 1 = .ok (.iconst 0, 1) := by decide +kernel
theorem dX12_readText_2 : decode cX12_readText 2 = .ok (.putfield 178, 3) := by decide +kernel
theorem dX12_readText_5 : decode cX12_readText 5 = .ok (.aload_n 0, 1) := by decide +kernel
theorem dX12_readText_6 : decode cX12_readText 6 = .ok (.iconst (-1), 1) := by decide +kernel
theorem dX12_readText_7 : decode cX12_readText 7 = .ok (.putfield 181, 3) := by decide +kernel
theorem dX12_readText_10 : decode cX12_readText 10 = .ok (.aload_n 0, 1) := by decide +kernel
theorem dX12_readText_11 : decode cX12_readText 11 = .ok (.iconst 0, 1) := by decide +kernel
theorem dX12_readText_12 : decode cX12_readText 12 = .ok (.putfield 187, 3) := by decide +kernel
theorem dX12_readText_15 : decode cX12_readText 15 = .ok (.aload_n 0, 1) := by decide +kernel
theorem dX12_readText_16 : decode cX12_readText 16 = .ok (.iconst 0, 1) := by decide +kernel
theorem dX12_readText_17 : decode cX12_readText 17 = .ok (.putfield 184, 3) := by decide +kernel
theorem dX12_readText_20 : decode cX12_readText 20 = .ok (.aload_n 0, 1) := by decide +kernel
theorem dX12_readText_21 : decode cX12_readText 21 = .ok (.getfield 47, 3) := by decide +kernel
theorem dX12_readText_24 : decode cX12_readText 24 = .ok (.iconst 1, 1) := by decide +kernel
theorem dX12_readText_25 : decode cX12_readText 25 = .ok (.iconst 0, 1) := by decide +kernel
theorem dX12_readText_26 : decode cX12_readText 26 = .ok (.iastore, 1) := by decide +kernel
theorem dX12_readText_27 : decode cX12_readText 27 = .ok (.aload_n 0, 1) := by decide +kernel
theorem dX12_readText_28 : decode cX12_readText 28 = .ok (.invokevirtual 230, 3) := by decide +kernel
theorem dX12_readText_31 : decode cX12_readText 31 = .ok (.aload_n 0, 1) := by decide +kernel
theorem dX12_readText_32 : decode cX12_readText 32 = .ok (.getfield 181, 3) := by decide +kernel
theorem dX12_readText_35 : decode cX12_readText 35 = .ok (.ifCond .ge 29, 3) := by decide +kernel
theorem dX12_readText_38 : decode cX12_readText 38 = .ok (.aload_n 0, 1) := by decide +kernel
theorem dX12_readText_39 : decode cX12_readText 39 = .ok (.invokevirtual 193, 3) := by decide +kernel
theorem dX12_readText_42 : decode cX12_readText 42 = .ok (.bipush 59, 2) := by decide +kernel
theorem dX12_readText_44 : decode cX12_readText 44 = .ok (.if_icmp .ne 20, 3) := by decide +kernel
theorem dX12_readText_47 : decode cX12_readText 47 = .ok (.aload_n 0, 1) := by decide +kernel
theorem dX12_readText_48 : decode cX12_readText 48 = .ok (.dup, 1) := by decide +kernel
theorem dX12_readText_49 : decode cX12_readText 49 = .ok (.getfield 178, 3) := by decide +kernel
theorem dX12_readText_52 : decode cX12_readText 52 = .ok (.iconst 1, 1) := by decide +kernel
theorem dX12_readText_53 : decode cX12_readText 53 = .ok (.iadd, 1) := by decide +kernel
theorem dX12_readText_54 : decode cX12_readText 54 = .ok (.putfield 178, 3) := by decide +kernel
theorem dX12_readText_57 : decode cX12_readText 57 = .ok (.aload_n 0, 1) := by decide +kernel
theorem dX12_readText_58 : decode cX12_readText 58 = .ok (.invokevirtual 230, 3) := by decide +kernel
theorem dX12_readText_61 : decode cX12_readText 61 = .ok (.goto (-30), 3) := by decide +kernel
theorem dX12_readText_64 : decode cX12_readText 64 = .ok (.aload_n 0, 1) := by decide +kernel
theorem dX12_readText_65 : decode cX12_readText 65 = .ok (.getfield 181, 3) := by decide +kernel
theorem dX12_readText_68 : decode cX12_readText 68 = .ok (.ifCond .ge 18, 3) := by decide +kernel
theorem dX12_readText_71 : decode cX12_readText 71 = .ok (.aload_n 0, 1) := by decide +kernel
theorem dX12_readText_72 : decode cX12_readText 72 = .ok (.getfield 178, 3) := by decide +kernel
theorem dX12_readText_75 : decode cX12_readText 75 = .ok (.aload_n 0, 1) := by decide +kernel
theorem dX12_readText_76 : decode cX12_readText 76 = .ok (.getfield 175, 3) := by decide +kernel
theorem dX12_readText_79 : decode cX12_readText 79 = .ok (.if_icmp .ge 7, 3) := by decide +kernel
theorem dX12_readText_82 : decode cX12_readText 82 = .ok (.aload_n 0, 1) := by decide +kernel
theorem dX12_readText_83 : decode cX12_readText 83 = .ok (.invokevirtual 190, 3) := by decide +kernel
theorem dX12_readText_86 : decode cX12_readText 86 = .ok (.aload_n 0, 1) := by decide +kernel
theorem dX12_readText_87 : decode cX12_readText 87 = .ok (.iconst 0, 1) := by decide +kernel
theorem dX12_readText_88 : decode cX12_readText 88 = .ok (.putfield 175, 3) := by decide +kernel
theorem dX12_readText_91 : decode cX12_readText 91 = .ok (.aload_n 0, 1) := by decide +kernel
theorem dX12_readText_92 : decode cX12_readText 92 = .ok (.getfield 181, 3) := by decide +kernel
theorem dX12_readText_95 : decode cX12_readText 95 = .ok (.ifCond .lt 8, 3) := by decide +kernel
theorem dX12_readText_98 : decode cX12_readText 98 = .ok (.aload_n 0, 1) := by decide +kernel
theorem dX12_readText_99 : decode cX12_readText 99 = .ok (.getfield 181, 3) := by decide +kernel
theorem dX12_readText_102 : decode cX12_readText 102 = .ok (.ireturn, 1) := by decide +kernel
theorem dX12_readText_103 : decode cX12_readText 103 = .ok (.iconst 0, 1) := by decide +kernel
theorem dX12_readText_104 : decode cX12_readText 104 = .ok (.istore_n 2, 1) := by decide +kernel
theorem dX12_readText_105 : decode cX12_readText 105 = .ok (.iload_n 2, 1) := by decide +kernel
theorem dX12_readText_106 : decode cX12_readText 106 = .ok (.aload_n 0, 1) := by decide +kernel
theorem dX12_readText_107 : decode cX12_readText 107 = .ok (.getfield 184, 3) := by decide +kernel
theorem dX12_readText_110 : decode cX12_readText 110 = .ok (.if_icmp .ge 53, 3) := by decide +kernel
theorem dX12_readText_113 : decode cX12_readText 113 = .ok (.aload_n 0, 1) := by decide +kernel
theorem dX12_readText_114 : decode cX12_readText 114 = .ok (.getfield 41, 3) := by decide +kernel
theorem dX12_readText_117 : decode cX12_readText 117 = .ok (.sipush 130, 3) := by decide +kernel
theorem dX12_readText_120 : decode cX12_readText 120 = .ok (.iload_n 1, 1) := by decide +kernel
theorem dX12_readText_121 : decode cX12_readText 121 = .ok (.imul, 1) := by decide +kernel
theorem dX12_readText_122 : decode cX12_readText 122 = .ok (.iload_n 2, 1) := by decide +kernel
theorem dX12_readText_123 : decode cX12_readText 123 = .ok (.iadd, 1) := by decide +kernel
theorem dX12_readText_124 : decode cX12_readText 124 = .ok (.aload_n 0, 1) := by decide +kernel
theorem dX12_readText_125 : decode cX12_readText 125 = .ok (.getfield 41, 3) := by decide +kernel
theorem dX12_readText_128 : decode cX12_readText 128 = .ok (.sipush 130, 3) := by decide +kernel
theorem dX12_readText_131 : decode cX12_readText 131 = .ok (.iload_n 2, 1) := by decide +kernel
theorem dX12_readText_132 : decode cX12_readText 132 = .ok (.iadd, 1) := by decide +kernel
theorem dX12_readText_133 : decode cX12_readText 133 = .ok (.baload, 1) := by decide +kernel
theorem dX12_readText_134 : decode cX12_readText 134 = .ok (.bastore, 1) := by decide +kernel
theorem dX12_readText_135 : decode cX12_readText 135 = .ok (.aload_n 0, 1) := by decide +kernel
theorem dX12_readText_136 : decode cX12_readText 136 = .ok (.getfield 44, 3) := by decide +kernel
theorem dX12_readText_139 : decode cX12_readText 139 = .ok (.sipush 130, 3) := by decide +kernel
theorem dX12_readText_142 : decode cX12_readText 142 = .ok (.iload_n 1, 1) := by decide +kernel
theorem dX12_readText_143 : decode cX12_readText 143 = .ok (.imul, 1) := by decide +kernel
theorem dX12_readText_144 : decode cX12_readText 144 = .ok (.iload_n 2, 1) := by decide +kernel
theorem dX12_readText_145 : decode cX12_readText 145 = .ok (.iadd, 1) := by decide +kernel
theorem dX12_readText_146 : decode cX12_readText 146 = .ok (.aload_n 0, 1) := by decide +kernel
theorem dX12_readText_147 : decode cX12_readText 147 = .ok (.getfield 44, 3) := by decide +kernel
theorem dX12_readText_150 : decode cX12_readText 150 = .ok (.sipush 130, 3) := by decide +kernel
theorem dX12_readText_153 : decode cX12_readText 153 = .ok (.iload_n 2, 1) := by decide +kernel
theorem dX12_readText_154 : decode cX12_readText 154 = .ok (.iadd, 1) := by decide +kernel
theorem dX12_readText_155 : decode cX12_readText 155 = .ok (.iaload, 1) := by decide +kernel
theorem dX12_readText_156 : decode cX12_readText 156 = .ok (.iastore, 1) := by decide +kernel
theorem dX12_readText_157 : decode cX12_readText 157 = .ok (.iinc 2 1, 3) := by decide +kernel
theorem dX12_readText_160 : decode cX12_readText 160 = .ok (.goto (-55), 3) := by decide +kernel
theorem dX12_readText_163 : decode cX12_readText 163 = .ok (.aload_n 0, 1) := by decide +kernel
theorem dX12_readText_164 : decode cX12_readText 164 = .ok (.getfield 47, 3) := by decide +kernel
theorem dX12_readText_167 : decode cX12_readText 167 = .ok (.iload_n 1, 1) := by decide +kernel
theorem dX12_readText_168 : decode cX12_readText 168 = .ok (.aload_n 0, 1) := by decide +kernel
theorem dX12_readText_169 : decode cX12_readText 169 = .ok (.getfield 47, 3) := by decide +kernel
theorem dX12_readText_172 : decode cX12_readText 172 = .ok (.iconst 1, 1) := by decide +kernel
theorem dX12_readText_173 : decode cX12_readText 173 = .ok (.iaload, 1) := by decide +kernel
theorem dX12_readText_174 : decode cX12_readText 174 = .ok (.iastore, 1) := by decide +kernel
theorem dX12_readText_175 : decode cX12_readText 175 = .ok (.iconst 0, 1) := by decide +kernel
theorem dX12_readText_176 : decode cX12_readText 176 = .ok (.istore_n 2, 1) := by decide +kernel
theorem dX12_readText_177 : decode cX12_readText 177 = .ok (.iload_n 2, 1) := by decide +kernel
theorem dX12_readText_178 : decode cX12_readText 178 = .ok (.aload_n 0, 1) := by decide +kernel
theorem dX12_readText_179 : decode cX12_readText 179 = .ok (.getfield 47, 3) := by decide +kernel
theorem dX12_readText_182 : decode cX12_readText 182 = .ok (.iload_n 1, 1) := by decide +kernel
theorem dX12_readText_183 : decode cX12_readText 183 = .ok (.iaload, 1) := by decide +kernel
theorem dX12_readText_184 : decode cX12_readText 184 = .ok (.if_icmp .ge 49, 3) := by decide +kernel
theorem dX12_readText_187 : decode cX12_readText 187 = .ok (.aload_n 0, 1) := by decide +kernel
theorem dX12_readText_188 : decode cX12_readText 188 = .ok (.getfield 50, 3) := by decide +kernel
theorem dX12_readText_191 : decode cX12_readText 191 = .ok (.bipush 61, 2) := by decide +kernel
theorem dX12_readText_193 : decode cX12_readText 193 = .ok (.iload_n 1, 1) := by decide +kernel
theorem dX12_readText_194 : decode cX12_readText 194 = .ok (.imul, 1) := by decide +kernel
theorem dX12_readText_195 : decode cX12_readText 195 = .ok (.iload_n 2, 1) := by decide +kernel
theorem dX12_readText_196 : decode cX12_readText 196 = .ok (.iadd, 1) := by decide +kernel
theorem dX12_readText_197 : decode cX12_readText 197 = .ok (.aload_n 0, 1) := by decide +kernel
theorem dX12_readText_198 : decode cX12_readText 198 = .ok (.getfield 50, 3) := by decide +kernel
theorem dX12_readText_201 : decode cX12_readText 201 = .ok (.bipush 61, 2) := by decide +kernel
theorem dX12_readText_203 : decode cX12_readText 203 = .ok (.iload_n 2, 1) := by decide +kernel
theorem dX12_readText_204 : decode cX12_readText 204 = .ok (.iadd, 1) := by decide +kernel
theorem dX12_readText_205 : decode cX12_readText 205 = .ok (.saload, 1) := by decide +kernel
theorem dX12_readText_206 : decode cX12_readText 206 = .ok (.sastore, 1) := by decide +kernel
theorem dX12_readText_207 : decode cX12_readText 207 = .ok (.aload_n 0, 1) := by decide +kernel
theorem dX12_readText_208 : decode cX12_readText 208 = .ok (.getfield 54, 3) := by decide +kernel
theorem dX12_readText_211 : decode cX12_readText 211 = .ok (.bipush 61, 2) := by decide +kernel
theorem dX12_readText_213 : decode cX12_readText 213 = .ok (.iload_n 1, 1) := by decide +kernel
theorem dX12_readText_214 : decode cX12_readText 214 = .ok (.imul, 1) := by decide +kernel
theorem dX12_readText_215 : decode cX12_readText 215 = .ok (.iload_n 2, 1) := by decide +kernel
theorem dX12_readText_216 : decode cX12_readText 216 = .ok (.iadd, 1) := by decide +kernel
theorem dX12_readText_217 : decode cX12_readText 217 = .ok (.aload_n 0, 1) := by decide +kernel
theorem dX12_readText_218 : decode cX12_readText 218 = .ok (.getfield 54, 3) := by decide +kernel
theorem dX12_readText_221 : decode cX12_readText 221 = .ok (.bipush 61, 2) := by decide +kernel
theorem dX12_readText_223 : decode cX12_readText 223 = .ok (.iload_n 2, 1) := by decide +kernel
theorem dX12_readText_224 : decode cX12_readText 224 = .ok (.iadd, 1) := by decide +kernel
theorem dX12_readText_225 : decode cX12_readText 225 = .ok (.saload, 1) := by decide +kernel
theorem dX12_readText_226 : decode cX12_readText 226 = .ok (.sastore, 1) := by decide +kernel
theorem dX12_readText_227 : decode cX12_readText 227 = .ok (.iinc 2 1, 3) := by decide +kernel
theorem dX12_readText_230 : decode cX12_readText 230 = .ok (.goto (-53), 3) := by decide +kernel
theorem dX12_readText_233 : decode cX12_readText 233 = .ok (.iconst (-1), 1) := by decide +kernel
theorem dX12_readText_234 : decode cX12_readText 234 = .ok (.ireturn, 1) := by decide +kernel
theorem dX12_twoOf_0 : decode cX12_twoOf 0 = .ok (.iload_n 0, 1) := by decide +kernel
theorem dX12_twoOf_1 : decode cX12_twoOf 1 = .ok (.tableswitch 217 37 62 #[153, 203, 217, 217, 217, 127, 119, 217, 123, 217, 131, 217, 217, 217, 217, 217, 217, 217, 217, 217, 217, 217, 217, 170, 181, 192], 119) := by decide +kernel
theorem dX12_twoOf_120 : decode cX12_twoOf 120 = .ok (.iload_n 1, 1) := by decide +kernel
theorem dX12_twoOf_121 : decode cX12_twoOf 121 = .ok (.iload_n 2, 1) := by decide +kernel
theorem dX12_twoOf_122 : decode cX12_twoOf 122 = .ok (.iadd, 1) := by decide +kernel
theorem dX12_twoOf_123 : decode cX12_twoOf 123 = .ok (.ireturn, 1) := by decide +kernel
theorem dX12_twoOf_124 : decode cX12_twoOf 124 = .ok (.iload_n 1, 1) := by decide +kernel
theorem dX12_twoOf_125 : decode cX12_twoOf 125 = .ok (.iload_n 2, 1) := by decide +kernel
theorem dX12_twoOf_126 : decode cX12_twoOf 126 = .ok (.isub, 1) := by decide +kernel
theorem dX12_twoOf_127 : decode cX12_twoOf 127 = .ok (.ireturn, 1) := by decide +kernel
theorem dX12_twoOf_128 : decode cX12_twoOf 128 = .ok (.iload_n 1, 1) := by decide +kernel
theorem dX12_twoOf_129 : decode cX12_twoOf 129 = .ok (.iload_n 2, 1) := by decide +kernel
theorem dX12_twoOf_130 : decode cX12_twoOf 130 = .ok (.imul, 1) := by decide +kernel
theorem dX12_twoOf_131 : decode cX12_twoOf 131 = .ok (.ireturn, 1) := by decide +kernel
theorem dX12_twoOf_132 : decode cX12_twoOf 132 = .ok (.iload_n 2, 1) := by decide +kernel
theorem dX12_twoOf_133 : decode cX12_twoOf 133 = .ok (.ifCond .ne 7, 3) := by decide +kernel
theorem dX12_twoOf_136 : decode cX12_twoOf 136 = .ok (.iconst 0, 1) := by decide +kernel
theorem dX12_twoOf_137 : decode cX12_twoOf 137 = .ok (.goto 16, 3) := by decide +kernel
theorem dX12_twoOf_140 : decode cX12_twoOf 140 = .ok (.iload_n 2, 1) := by decide +kernel
theorem dX12_twoOf_141 : decode cX12_twoOf 141 = .ok (.iconst (-1), 1) := by decide +kernel
theorem dX12_twoOf_142 : decode cX12_twoOf 142 = .ok (.if_icmp .ne 8, 3) := by decide +kernel
theorem dX12_twoOf_145 : decode cX12_twoOf 145 = .ok (.iload_n 1, 1) := by decide +kernel
theorem dX12_twoOf_146 : decode cX12_twoOf 146 = .ok (.ineg, 1) := by decide +kernel
theorem dX12_twoOf_147 : decode cX12_twoOf 147 = .ok (.goto 6, 3) := by decide +kernel
theorem dX12_twoOf_150 : decode cX12_twoOf 150 = .ok (.iload_n 1, 1) := by decide +kernel
theorem dX12_twoOf_151 : decode cX12_twoOf 151 = .ok (.iload_n 2, 1) := by decide +kernel
theorem dX12_twoOf_152 : decode cX12_twoOf 152 = .ok (.idiv, 1) := by decide +kernel
theorem dX12_twoOf_153 : decode cX12_twoOf 153 = .ok (.ireturn, 1) := by decide +kernel
theorem dX12_twoOf_154 : decode cX12_twoOf 154 = .ok (.iload_n 2, 1) := by decide +kernel
theorem dX12_twoOf_155 : decode cX12_twoOf 155 = .ok (.ifCond .eq 8, 3) := by decide +kernel
theorem dX12_twoOf_158 : decode cX12_twoOf 158 = .ok (.iload_n 2, 1) := by decide +kernel
theorem dX12_twoOf_159 : decode cX12_twoOf 159 = .ok (.iconst (-1), 1) := by decide +kernel
theorem dX12_twoOf_160 : decode cX12_twoOf 160 = .ok (.if_icmp .ne 7, 3) := by decide +kernel
theorem dX12_twoOf_163 : decode cX12_twoOf 163 = .ok (.iconst 0, 1) := by decide +kernel
theorem dX12_twoOf_164 : decode cX12_twoOf 164 = .ok (.goto 6, 3) := by decide +kernel
theorem dX12_twoOf_167 : decode cX12_twoOf 167 = .ok (.iload_n 1, 1) := by decide +kernel
theorem dX12_twoOf_168 : decode cX12_twoOf 168 = .ok (.iload_n 2, 1) := by decide +kernel
theorem dX12_twoOf_169 : decode cX12_twoOf 169 = .ok (.irem, 1) := by decide +kernel
theorem dX12_twoOf_170 : decode cX12_twoOf 170 = .ok (.ireturn, 1) := by decide +kernel
theorem dX12_twoOf_171 : decode cX12_twoOf 171 = .ok (.iload_n 1, 1) := by decide +kernel
theorem dX12_twoOf_172 : decode cX12_twoOf 172 = .ok (.iload_n 2, 1) := by decide +kernel
theorem dX12_twoOf_173 : decode cX12_twoOf 173 = .ok (.if_icmp .ge 7, 3) := by decide +kernel
theorem dX12_twoOf_176 : decode cX12_twoOf 176 = .ok (.iconst 1, 1) := by decide +kernel
theorem dX12_twoOf_177 : decode cX12_twoOf 177 = .ok (.goto 4, 3) := by decide +kernel
theorem dX12_twoOf_180 : decode cX12_twoOf 180 = .ok (.iconst 0, 1) := by decide +kernel
theorem dX12_twoOf_181 : decode cX12_twoOf 181 = .ok (.ireturn, 1) := by decide +kernel
theorem dX12_twoOf_182 : decode cX12_twoOf 182 = .ok (.iload_n 1, 1) := by decide +kernel
theorem dX12_twoOf_183 : decode cX12_twoOf 183 = .ok (.iload_n 2, 1) := by decide +kernel
theorem dX12_twoOf_184 : decode cX12_twoOf 184 = .ok (.if_icmp .ne 7, 3) := by decide +kernel
theorem dX12_twoOf_187 : decode cX12_twoOf 187 = .ok (.iconst 1, 1) := by decide +kernel
theorem dX12_twoOf_188 : decode cX12_twoOf 188 = .ok (.goto 4, 3) := by decide +kernel
theorem dX12_twoOf_191 : decode cX12_twoOf 191 = .ok (.iconst 0, 1) := by decide +kernel
theorem dX12_twoOf_192 : decode cX12_twoOf 192 = .ok (.ireturn, 1) := by decide +kernel
theorem dX12_twoOf_193 : decode cX12_twoOf 193 = .ok (.iload_n 1, 1) := by decide +kernel
theorem dX12_twoOf_194 : decode cX12_twoOf 194 = .ok (.iload_n 2, 1) := by decide +kernel
theorem dX12_twoOf_195 : decode cX12_twoOf 195 = .ok (.if_icmp .le 7, 3) := by decide +kernel
theorem dX12_twoOf_198 : decode cX12_twoOf 198 = .ok (.iconst 1, 1) := by decide +kernel
theorem dX12_twoOf_199 : decode cX12_twoOf 199 = .ok (.goto 4, 3) := by decide +kernel
theorem dX12_twoOf_202 : decode cX12_twoOf 202 = .ok (.iconst 0, 1) := by decide +kernel
theorem dX12_twoOf_203 : decode cX12_twoOf 203 = .ok (.ireturn, 1) := by decide +kernel
theorem dX12_twoOf_204 : decode cX12_twoOf 204 = .ok (.iload_n 1, 1) := by decide +kernel
theorem dX12_twoOf_205 : decode cX12_twoOf 205 = .ok (.ifCond .eq 11, 3) := by decide +kernel
theorem dX12_twoOf_208 : decode cX12_twoOf 208 = .ok (.iload_n 2, 1) := by decide +kernel
theorem dX12_twoOf_209 : decode cX12_twoOf 209 = .ok (.ifCond .eq 7, 3) := by decide +kernel
theorem dX12_twoOf_212 : decode cX12_twoOf 212 = .ok (.iconst 1, 1) := by decide +kernel
theorem dX12_twoOf_213 : decode cX12_twoOf 213 = .ok (.goto 4, 3) := by decide +kernel
theorem dX12_twoOf_216 : decode cX12_twoOf 216 = .ok (.iconst 0, 1) := by decide +kernel
theorem dX12_twoOf_217 : decode cX12_twoOf 217 = .ok (.ireturn, 1) := by decide +kernel
theorem dX12_twoOf_218 : decode cX12_twoOf 218 = .ok (.iload_n 1, 1) := by decide +kernel
theorem dX12_twoOf_219 : decode cX12_twoOf 219 = .ok (.ifCond .ne 7, 3) := by decide +kernel
theorem dX12_twoOf_222 : decode cX12_twoOf 222 = .ok (.iload_n 2, 1) := by decide +kernel
theorem dX12_twoOf_223 : decode cX12_twoOf 223 = .ok (.ifCond .eq 7, 3) := by decide +kernel
theorem dX12_twoOf_226 : decode cX12_twoOf 226 = .ok (.iconst 1, 1) := by decide +kernel
theorem dX12_twoOf_227 : decode cX12_twoOf 227 = .ok (.goto 4, 3) := by decide +kernel
theorem dX12_twoOf_230 : decode cX12_twoOf 230 = .ok (.iconst 0, 1) := by decide +kernel
theorem dX12_twoOf_231 : decode cX12_twoOf 231 = .ok (.ireturn, 1) := by decide +kernel
theorem dX12_worked_0 : decode cX12_worked 0 = .ok (.iconst 0, 1) := by decide +kernel
theorem dX12_worked_1 : decode cX12_worked 1 = .ok (.istore 4, 2) := by decide +kernel
theorem dX12_worked_3 : decode cX12_worked 3 = .ok (.sipush 130, 3) := by decide +kernel
theorem dX12_worked_6 : decode cX12_worked 6 = .ok (.iload_n 1, 1) := by decide +kernel
theorem dX12_worked_7 : decode cX12_worked 7 = .ok (.imul, 1) := by decide +kernel
theorem dX12_worked_8 : decode cX12_worked 8 = .ok (.iload_n 2, 1) := by decide +kernel
theorem dX12_worked_9 : decode cX12_worked 9 = .ok (.iadd, 1) := by decide +kernel
theorem dX12_worked_10 : decode cX12_worked 10 = .ok (.istore 5, 2) := by decide +kernel
theorem dX12_worked_12 : decode cX12_worked 12 = .ok (.iload 5, 2) := by decide +kernel
theorem dX12_worked_14 : decode cX12_worked 14 = .ok (.sipush 130, 3) := by decide +kernel
theorem dX12_worked_17 : decode cX12_worked 17 = .ok (.iload_n 1, 1) := by decide +kernel
theorem dX12_worked_18 : decode cX12_worked 18 = .ok (.imul, 1) := by decide +kernel
theorem dX12_worked_19 : decode cX12_worked 19 = .ok (.iload_n 3, 1) := by decide +kernel
theorem dX12_worked_20 : decode cX12_worked 20 = .ok (.iadd, 1) := by decide +kernel
theorem dX12_worked_21 : decode cX12_worked 21 = .ok (.if_icmp .ge 167, 3) := by decide +kernel
theorem dX12_worked_24 : decode cX12_worked 24 = .ok (.aload_n 0, 1) := by decide +kernel
theorem dX12_worked_25 : decode cX12_worked 25 = .ok (.getfield 41, 3) := by decide +kernel
theorem dX12_worked_28 : decode cX12_worked 28 = .ok (.iload 5, 2) := by decide +kernel
theorem dX12_worked_30 : decode cX12_worked 30 = .ok (.baload, 1) := by decide +kernel
theorem dX12_worked_31 : decode cX12_worked 31 = .ok (.istore 6, 2) := by decide +kernel
theorem dX12_worked_33 : decode cX12_worked 33 = .ok (.iload 6, 2) := by decide +kernel
theorem dX12_worked_35 : decode cX12_worked 35 = .ok (.iconst 1, 1) := by decide +kernel
theorem dX12_worked_36 : decode cX12_worked 36 = .ok (.if_icmp .eq 9, 3) := by decide +kernel
theorem dX12_worked_39 : decode cX12_worked 39 = .ok (.iload 6, 2) := by decide +kernel
theorem dX12_worked_41 : decode cX12_worked 41 = .ok (.iconst 2, 1) := by decide +kernel
theorem dX12_worked_42 : decode cX12_worked 42 = .ok (.if_icmp .ne 44, 3) := by decide +kernel
theorem dX12_worked_45 : decode cX12_worked 45 = .ok (.aload_n 0, 1) := by decide +kernel
theorem dX12_worked_46 : decode cX12_worked 46 = .ok (.getfield 60, 3) := by decide +kernel
theorem dX12_worked_49 : decode cX12_worked 49 = .ok (.iload 4, 2) := by decide +kernel
theorem dX12_worked_51 : decode cX12_worked 51 = .ok (.iload 6, 2) := by decide +kernel
theorem dX12_worked_53 : decode cX12_worked 53 = .ok (.iconst 1, 1) := by decide +kernel
theorem dX12_worked_54 : decode cX12_worked 54 = .ok (.if_icmp .ne 13, 3) := by decide +kernel
theorem dX12_worked_57 : decode cX12_worked 57 = .ok (.aload_n 0, 1) := by decide +kernel
theorem dX12_worked_58 : decode cX12_worked 58 = .ok (.getfield 44, 3) := by decide +kernel
theorem dX12_worked_61 : decode cX12_worked 61 = .ok (.iload 5, 2) := by decide +kernel
theorem dX12_worked_63 : decode cX12_worked 63 = .ok (.iaload, 1) := by decide +kernel
theorem dX12_worked_64 : decode cX12_worked 64 = .ok (.goto 15, 3) := by decide +kernel
theorem dX12_worked_67 : decode cX12_worked 67 = .ok (.aload_n 0, 1) := by decide +kernel
theorem dX12_worked_68 : decode cX12_worked 68 = .ok (.getfield 57, 3) := by decide +kernel
theorem dX12_worked_71 : decode cX12_worked 71 = .ok (.aload_n 0, 1) := by decide +kernel
theorem dX12_worked_72 : decode cX12_worked 72 = .ok (.getfield 44, 3) := by decide +kernel
theorem dX12_worked_75 : decode cX12_worked 75 = .ok (.iload 5, 2) := by decide +kernel
theorem dX12_worked_77 : decode cX12_worked 77 = .ok (.iaload, 1) := by decide +kernel
theorem dX12_worked_78 : decode cX12_worked 78 = .ok (.iaload, 1) := by decide +kernel
theorem dX12_worked_79 : decode cX12_worked 79 = .ok (.iastore, 1) := by decide +kernel
theorem dX12_worked_80 : decode cX12_worked 80 = .ok (.iinc 4 1, 3) := by decide +kernel
theorem dX12_worked_83 : decode cX12_worked 83 = .ok (.goto 99, 3) := by decide +kernel
theorem dX12_worked_86 : decode cX12_worked 86 = .ok (.iload 6, 2) := by decide +kernel
theorem dX12_worked_88 : decode cX12_worked 88 = .ok (.iconst 3, 1) := by decide +kernel
theorem dX12_worked_89 : decode cX12_worked 89 = .ok (.if_icmp .ne 32, 3) := by decide +kernel
theorem dX12_worked_92 : decode cX12_worked 92 = .ok (.aload_n 0, 1) := by decide +kernel
theorem dX12_worked_93 : decode cX12_worked 93 = .ok (.getfield 60, 3) := by decide +kernel
theorem dX12_worked_96 : decode cX12_worked 96 = .ok (.iload 4, 2) := by decide +kernel
theorem dX12_worked_98 : decode cX12_worked 98 = .ok (.iconst 1, 1) := by decide +kernel
theorem dX12_worked_99 : decode cX12_worked 99 = .ok (.isub, 1) := by decide +kernel
theorem dX12_worked_100 : decode cX12_worked 100 = .ok (.aload_n 0, 1) := by decide +kernel
theorem dX12_worked_101 : decode cX12_worked 101 = .ok (.getfield 60, 3) := by decide +kernel
theorem dX12_worked_104 : decode cX12_worked 104 = .ok (.iload 4, 2) := by decide +kernel
theorem dX12_worked_106 : decode cX12_worked 106 = .ok (.iconst 1, 1) := by decide +kernel
theorem dX12_worked_107 : decode cX12_worked 107 = .ok (.isub, 1) := by decide +kernel
theorem dX12_worked_108 : decode cX12_worked 108 = .ok (.iaload, 1) := by decide +kernel
theorem dX12_worked_109 : decode cX12_worked 109 = .ok (.ifCond .ne 7, 3) := by decide +kernel
theorem dX12_worked_112 : decode cX12_worked 112 = .ok (.iconst 1, 1) := by decide +kernel
theorem dX12_worked_113 : decode cX12_worked 113 = .ok (.goto 4, 3) := by decide +kernel
theorem dX12_worked_116 : decode cX12_worked 116 = .ok (.iconst 0, 1) := by decide +kernel
theorem dX12_worked_117 : decode cX12_worked 117 = .ok (.iastore, 1) := by decide +kernel
theorem dX12_worked_118 : decode cX12_worked 118 = .ok (.goto 64, 3) := by decide +kernel
theorem dX12_worked_121 : decode cX12_worked 121 = .ok (.iload 6, 2) := by decide +kernel
theorem dX12_worked_123 : decode cX12_worked 123 = .ok (.iconst 4, 1) := by decide +kernel
theorem dX12_worked_124 : decode cX12_worked 124 = .ok (.if_icmp .ne 25, 3) := by decide +kernel
theorem dX12_worked_127 : decode cX12_worked 127 = .ok (.aload_n 0, 1) := by decide +kernel
theorem dX12_worked_128 : decode cX12_worked 128 = .ok (.getfield 60, 3) := by decide +kernel
theorem dX12_worked_131 : decode cX12_worked 131 = .ok (.iload 4, 2) := by decide +kernel
theorem dX12_worked_133 : decode cX12_worked 133 = .ok (.iconst 1, 1) := by decide +kernel
theorem dX12_worked_134 : decode cX12_worked 134 = .ok (.isub, 1) := by decide +kernel
theorem dX12_worked_135 : decode cX12_worked 135 = .ok (.aload_n 0, 1) := by decide +kernel
theorem dX12_worked_136 : decode cX12_worked 136 = .ok (.getfield 60, 3) := by decide +kernel
theorem dX12_worked_139 : decode cX12_worked 139 = .ok (.iload 4, 2) := by decide +kernel
theorem dX12_worked_141 : decode cX12_worked 141 = .ok (.iconst 1, 1) := by decide +kernel
theorem dX12_worked_142 : decode cX12_worked 142 = .ok (.isub, 1) := by decide +kernel
theorem dX12_worked_143 : decode cX12_worked 143 = .ok (.iaload, 1) := by decide +kernel
theorem dX12_worked_144 : decode cX12_worked 144 = .ok (.ineg, 1) := by decide +kernel
theorem dX12_worked_145 : decode cX12_worked 145 = .ok (.iastore, 1) := by decide +kernel
theorem dX12_worked_146 : decode cX12_worked 146 = .ok (.goto 36, 3) := by decide +kernel
theorem dX12_worked_149 : decode cX12_worked 149 = .ok (.iinc 4 (-1), 3) := by decide +kernel
theorem dX12_worked_152 : decode cX12_worked 152 = .ok (.aload_n 0, 1) := by decide +kernel
theorem dX12_worked_153 : decode cX12_worked 153 = .ok (.getfield 60, 3) := by decide +kernel
theorem dX12_worked_156 : decode cX12_worked 156 = .ok (.iload 4, 2) := by decide +kernel
theorem dX12_worked_158 : decode cX12_worked 158 = .ok (.iconst 1, 1) := by decide +kernel
theorem dX12_worked_159 : decode cX12_worked 159 = .ok (.isub, 1) := by decide +kernel
theorem dX12_worked_160 : decode cX12_worked 160 = .ok (.iload 6, 2) := by decide +kernel
theorem dX12_worked_162 : decode cX12_worked 162 = .ok (.aload_n 0, 1) := by decide +kernel
theorem dX12_worked_163 : decode cX12_worked 163 = .ok (.getfield 60, 3) := by decide +kernel
theorem dX12_worked_166 : decode cX12_worked 166 = .ok (.iload 4, 2) := by decide +kernel
theorem dX12_worked_168 : decode cX12_worked 168 = .ok (.iconst 1, 1) := by decide +kernel
theorem dX12_worked_169 : decode cX12_worked 169 = .ok (.isub, 1) := by decide +kernel
theorem dX12_worked_170 : decode cX12_worked 170 = .ok (.iaload, 1) := by decide +kernel
theorem dX12_worked_171 : decode cX12_worked 171 = .ok (.aload_n 0, 1) := by decide +kernel
theorem dX12_worked_172 : decode cX12_worked 172 = .ok (.getfield 60, 3) := by decide +kernel
theorem dX12_worked_175 : decode cX12_worked 175 = .ok (.iload 4, 2) := by decide +kernel
theorem dX12_worked_177 : decode cX12_worked 177 = .ok (.iaload, 1) := by decide +kernel
theorem dX12_worked_178 : decode cX12_worked 178 = .ok (.invokestatic 233, 3) := by decide +kernel
theorem dX12_worked_181 : decode cX12_worked 181 = .ok (.iastore, 1) := by decide +kernel
theorem dX12_worked_182 : decode cX12_worked 182 = .ok (.iinc 5 1, 3) := by decide +kernel
theorem dX12_worked_185 : decode cX12_worked 185 = .ok (.goto (-173), 3) := by decide +kernel
theorem dX12_worked_188 : decode cX12_worked 188 = .ok (.aload_n 0, 1) := by decide +kernel
theorem dX12_worked_189 : decode cX12_worked 189 = .ok (.getfield 60, 3) := by decide +kernel
theorem dX12_worked_192 : decode cX12_worked 192 = .ok (.iconst 0, 1) := by decide +kernel
theorem dX12_worked_193 : decode cX12_worked 193 = .ok (.iaload, 1) := by decide +kernel
theorem dX12_worked_194 : decode cX12_worked 194 = .ok (.ireturn, 1) := by decide +kernel
theorem dX12_gives_0 : decode cX12_gives 0 = .ok (.iconst 0, 1) := by decide +kernel
theorem dX12_gives_1 : decode cX12_gives 1 = .ok (.istore_n 2, 1) := by decide +kernel
theorem dX12_gives_2 : decode cX12_gives 2 = .ok (.bipush 61, 2) := by decide +kernel
theorem dX12_gives_4 : decode cX12_gives 4 = .ok (.iload_n 1, 1) := by decide +kernel
theorem dX12_gives_5 : decode cX12_gives 5 = .ok (.imul, 1) := by decide +kernel
theorem dX12_gives_6 : decode cX12_gives 6 = .ok (.istore_n 3, 1) := by decide +kernel
theorem dX12_gives_7 : decode cX12_gives 7 = .ok (.iload_n 3, 1) := by decide +kernel
theorem dX12_gives_8 : decode cX12_gives 8 = .ok (.bipush 61, 2) := by decide +kernel
theorem dX12_gives_10 : decode cX12_gives 10 = .ok (.iload_n 1, 1) := by decide +kernel
theorem dX12_gives_11 : decode cX12_gives 11 = .ok (.imul, 1) := by decide +kernel
theorem dX12_gives_12 : decode cX12_gives 12 = .ok (.aload_n 0, 1) := by decide +kernel
theorem dX12_gives_13 : decode cX12_gives 13 = .ok (.getfield 47, 3) := by decide +kernel
theorem dX12_gives_16 : decode cX12_gives 16 = .ok (.iload_n 1, 1) := by decide +kernel
theorem dX12_gives_17 : decode cX12_gives 17 = .ok (.iaload, 1) := by decide +kernel
theorem dX12_gives_18 : decode cX12_gives 18 = .ok (.iadd, 1) := by decide +kernel
theorem dX12_gives_19 : decode cX12_gives 19 = .ok (.if_icmp .ge 59, 3) := by decide +kernel
theorem dX12_gives_22 : decode cX12_gives 22 = .ok (.aload_n 0, 1) := by decide +kernel
theorem dX12_gives_23 : decode cX12_gives 23 = .ok (.getfield 50, 3) := by decide +kernel
theorem dX12_gives_26 : decode cX12_gives 26 = .ok (.iload_n 3, 1) := by decide +kernel
theorem dX12_gives_27 : decode cX12_gives 27 = .ok (.saload, 1) := by decide +kernel
theorem dX12_gives_28 : decode cX12_gives 28 = .ok (.iload_n 2, 1) := by decide +kernel
theorem dX12_gives_29 : decode cX12_gives 29 = .ok (.if_icmp .eq 18, 3) := by decide +kernel
theorem dX12_gives_32 : decode cX12_gives 32 = .ok (.aload_n 0, 1) := by decide +kernel
theorem dX12_gives_33 : decode cX12_gives 33 = .ok (.iload_n 1, 1) := by decide +kernel
theorem dX12_gives_34 : decode cX12_gives 34 = .ok (.iload_n 2, 1) := by decide +kernel
theorem dX12_gives_35 : decode cX12_gives 35 = .ok (.aload_n 0, 1) := by decide +kernel
theorem dX12_gives_36 : decode cX12_gives 36 = .ok (.getfield 50, 3) := by decide +kernel
theorem dX12_gives_39 : decode cX12_gives 39 = .ok (.iload_n 3, 1) := by decide +kernel
theorem dX12_gives_40 : decode cX12_gives 40 = .ok (.saload, 1) := by decide +kernel
theorem dX12_gives_41 : decode cX12_gives 41 = .ok (.invokevirtual 236, 3) := by decide +kernel
theorem dX12_gives_44 : decode cX12_gives 44 = .ok (.ifCond .eq 21, 3) := by decide +kernel
theorem dX12_gives_47 : decode cX12_gives 47 = .ok (.aload_n 0, 1) := by decide +kernel
theorem dX12_gives_48 : decode cX12_gives 48 = .ok (.iload_n 1, 1) := by decide +kernel
theorem dX12_gives_49 : decode cX12_gives 49 = .ok (.aload_n 0, 1) := by decide +kernel
theorem dX12_gives_50 : decode cX12_gives 50 = .ok (.getfield 50, 3) := by decide +kernel
theorem dX12_gives_53 : decode cX12_gives 53 = .ok (.iload_n 3, 1) := by decide +kernel
theorem dX12_gives_54 : decode cX12_gives 54 = .ok (.saload, 1) := by decide +kernel
theorem dX12_gives_55 : decode cX12_gives 55 = .ok (.aload_n 0, 1) := by decide +kernel
theorem dX12_gives_56 : decode cX12_gives 56 = .ok (.getfield 54, 3) := by decide +kernel
theorem dX12_gives_59 : decode cX12_gives 59 = .ok (.iload_n 3, 1) := by decide +kernel
theorem dX12_gives_60 : decode cX12_gives 60 = .ok (.saload, 1) := by decide +kernel
theorem dX12_gives_61 : decode cX12_gives 61 = .ok (.invokevirtual 236, 3) := by decide +kernel
theorem dX12_gives_64 : decode cX12_gives 64 = .ok (.ireturn, 1) := by decide +kernel
theorem dX12_gives_65 : decode cX12_gives 65 = .ok (.aload_n 0, 1) := by decide +kernel
theorem dX12_gives_66 : decode cX12_gives 66 = .ok (.getfield 54, 3) := by decide +kernel
theorem dX12_gives_69 : decode cX12_gives 69 = .ok (.iload_n 3, 1) := by decide +kernel
theorem dX12_gives_70 : decode cX12_gives 70 = .ok (.saload, 1) := by decide +kernel
theorem dX12_gives_71 : decode cX12_gives 71 = .ok (.istore_n 2, 1) := by decide +kernel
theorem dX12_gives_72 : decode cX12_gives 72 = .ok (.iinc 3 1, 3) := by decide +kernel
theorem dX12_gives_75 : decode cX12_gives 75 = .ok (.goto (-68), 3) := by decide +kernel
theorem dX12_gives_78 : decode cX12_gives 78 = .ok (.iconst 0, 1) := by decide +kernel
theorem dX12_gives_79 : decode cX12_gives 79 = .ok (.ireturn, 1) := by decide +kernel
theorem dX12_law_0 : decode cX12_law 0 = .ok (.aload_n 0, 1) := by decide +kernel
theorem dX12_law_1 : decode cX12_law 1 = .ok (.iconst 0, 1) := by decide +kernel
theorem dX12_law_2 : decode cX12_law 2 = .ok (.invokevirtual 239, 3) := by decide +kernel
theorem dX12_law_5 : decode cX12_law 5 = .ok (.istore_n 1, 1) := by decide +kernel
theorem dX12_law_6 : decode cX12_law 6 = .ok (.iload_n 1, 1) := by decide +kernel
theorem dX12_law_7 : decode cX12_law 7 = .ok (.ifCond .lt 8, 3) := by decide +kernel
theorem dX12_law_10 : decode cX12_law 10 = .ok (.bipush (-100), 2) := by decide +kernel
theorem dX12_law_12 : decode cX12_law 12 = .ok (.iload_n 1, 1) := by decide +kernel
theorem dX12_law_13 : decode cX12_law 13 = .ok (.isub, 1) := by decide +kernel
theorem dX12_law_14 : decode cX12_law 14 = .ok (.ireturn, 1) := by decide +kernel
theorem dX12_law_15 : decode cX12_law 15 = .ok (.aload_n 0, 1) := by decide +kernel
theorem dX12_law_16 : decode cX12_law 16 = .ok (.iconst 1, 1) := by decide +kernel
theorem dX12_law_17 : decode cX12_law 17 = .ok (.putfield 242, 3) := by decide +kernel
theorem dX12_law_20 : decode cX12_law 20 = .ok (.iconst 1, 1) := by decide +kernel
theorem dX12_law_21 : decode cX12_law 21 = .ok (.ireturn, 1) := by decide +kernel
theorem dX12_beginRaid_0 : decode cX12_beginRaid 0 = .ok (.aload_n 0, 1) := by decide +kernel
theorem dX12_beginRaid_1 : decode cX12_beginRaid 1 = .ok (.iconst 0, 1) := by decide +kernel
theorem dX12_beginRaid_2 : decode cX12_beginRaid 2 = .ok (.putfield 246, 3) := by decide +kernel
theorem dX12_beginRaid_5 : decode cX12_beginRaid 5 = .ok (.iconst 0, 1) := by decide +kernel
theorem dX12_beginRaid_6 : decode cX12_beginRaid 6 = .ok (.istore_n 1, 1) := by decide +kernel
theorem dX12_beginRaid_7 : decode cX12_beginRaid 7 = .ok (.iload_n 1, 1) := by decide +kernel
theorem dX12_beginRaid_8 : decode cX12_beginRaid 8 = .ok (.aload_n 0, 1) := by decide +kernel
theorem dX12_beginRaid_9 : decode cX12_beginRaid 9 = .ok (.getfield 125, 3) := by decide +kernel
theorem dX12_beginRaid_12 : decode cX12_beginRaid 12 = .ok (.if_icmp .ge 55, 3) := by decide +kernel
theorem dX12_beginRaid_15 : decode cX12_beginRaid 15 = .ok (.aload_n 0, 1) := by decide +kernel
theorem dX12_beginRaid_16 : decode cX12_beginRaid 16 = .ok (.getfield 63, 3) := by decide +kernel
theorem dX12_beginRaid_19 : decode cX12_beginRaid 19 = .ok (.iload_n 1, 1) := by decide +kernel
theorem dX12_beginRaid_20 : decode cX12_beginRaid 20 = .ok (.aload_n 0, 1) := by decide +kernel
theorem dX12_beginRaid_21 : decode cX12_beginRaid 21 = .ok (.getfield 7, 3) := by decide +kernel
theorem dX12_beginRaid_24 : decode cX12_beginRaid 24 = .ok (.iload_n 1, 1) := by decide +kernel
theorem dX12_beginRaid_25 : decode cX12_beginRaid 25 = .ok (.iaload, 1) := by decide +kernel
theorem dX12_beginRaid_26 : decode cX12_beginRaid 26 = .ok (.iastore, 1) := by decide +kernel
theorem dX12_beginRaid_27 : decode cX12_beginRaid 27 = .ok (.aload_n 0, 1) := by decide +kernel
theorem dX12_beginRaid_28 : decode cX12_beginRaid 28 = .ok (.getfield 66, 3) := by decide +kernel
theorem dX12_beginRaid_31 : decode cX12_beginRaid 31 = .ok (.iload_n 1, 1) := by decide +kernel
theorem dX12_beginRaid_32 : decode cX12_beginRaid 32 = .ok (.aload_n 0, 1) := by decide +kernel
theorem dX12_beginRaid_33 : decode cX12_beginRaid 33 = .ok (.getfield 13, 3) := by decide +kernel
theorem dX12_beginRaid_36 : decode cX12_beginRaid 36 = .ok (.iload_n 1, 1) := by decide +kernel
theorem dX12_beginRaid_37 : decode cX12_beginRaid 37 = .ok (.iaload, 1) := by decide +kernel
theorem dX12_beginRaid_38 : decode cX12_beginRaid 38 = .ok (.iastore, 1) := by decide +kernel
theorem dX12_beginRaid_39 : decode cX12_beginRaid 39 = .ok (.aload_n 0, 1) := by decide +kernel
theorem dX12_beginRaid_40 : decode cX12_beginRaid 40 = .ok (.getfield 19, 3) := by decide +kernel
theorem dX12_beginRaid_43 : decode cX12_beginRaid 43 = .ok (.iload_n 1, 1) := by decide +kernel
theorem dX12_beginRaid_44 : decode cX12_beginRaid 44 = .ok (.iaload, 1) := by decide +kernel
theorem dX12_beginRaid_45 : decode cX12_beginRaid 45 = .ok (.iconst 1, 1) := by decide +kernel
theorem dX12_beginRaid_46 : decode cX12_beginRaid 46 = .ok (.if_icmp .ne 15, 3) := by decide +kernel
theorem dX12_beginRaid_49 : decode cX12_beginRaid 49 = .ok (.aload_n 0, 1) := by decide +kernel
theorem dX12_beginRaid_50 : decode cX12_beginRaid 50 = .ok (.dup, 1) := by decide +kernel
theorem dX12_beginRaid_51 : decode cX12_beginRaid 51 = .ok (.getfield 246, 3) := by decide +kernel
theorem dX12_beginRaid_54 : decode cX12_beginRaid 54 = .ok (.iconst 1, 1) := by decide +kernel
theorem dX12_beginRaid_55 : decode cX12_beginRaid 55 = .ok (.iload_n 1, 1) := by decide +kernel
theorem dX12_beginRaid_56 : decode cX12_beginRaid 56 = .ok (.ishl, 1) := by decide +kernel
theorem dX12_beginRaid_57 : decode cX12_beginRaid 57 = .ok (.ior, 1) := by decide +kernel
theorem dX12_beginRaid_58 : decode cX12_beginRaid 58 = .ok (.putfield 246, 3) := by decide +kernel
theorem dX12_beginRaid_61 : decode cX12_beginRaid 61 = .ok (.iinc 1 1, 3) := by decide +kernel
theorem dX12_beginRaid_64 : decode cX12_beginRaid 64 = .ok (.goto (-57), 3) := by decide +kernel
theorem dX12_beginRaid_67 : decode cX12_beginRaid 67 = .ok (.aload_n 0, 1) := by decide +kernel
theorem dX12_beginRaid_68 : decode cX12_beginRaid 68 = .ok (.aload_n 0, 1) := by decide +kernel
theorem dX12_beginRaid_69 : decode cX12_beginRaid 69 = .ok (.getfield 22, 3) := by decide +kernel
theorem dX12_beginRaid_72 : decode cX12_beginRaid 72 = .ok (.iconst 3, 1) := by decide +kernel
theorem dX12_beginRaid_73 : decode cX12_beginRaid 73 = .ok (.iaload, 1) := by decide +kernel
theorem dX12_beginRaid_74 : decode cX12_beginRaid 74 = .ok (.putfield 249, 3) := by decide +kernel
theorem dX12_beginRaid_77 : decode cX12_beginRaid 77 = .ok (.aload_n 0, 1) := by decide +kernel
theorem dX12_beginRaid_78 : decode cX12_beginRaid 78 = .ok (.iconst 0, 1) := by decide +kernel
theorem dX12_beginRaid_79 : decode cX12_beginRaid 79 = .ok (.putfield 252, 3) := by decide +kernel
theorem dX12_beginRaid_82 : decode cX12_beginRaid 82 = .ok (.aload_n 0, 1) := by decide +kernel
theorem dX12_beginRaid_83 : decode cX12_beginRaid 83 = .ok (.iconst 0, 1) := by decide +kernel
theorem dX12_beginRaid_84 : decode cX12_beginRaid 84 = .ok (.putfield 255, 3) := by decide +kernel
theorem dX12_beginRaid_87 : decode cX12_beginRaid 87 = .ok (.aload_n 0, 1) := by decide +kernel
theorem dX12_beginRaid_88 : decode cX12_beginRaid 88 = .ok (.iconst 0, 1) := by decide +kernel
theorem dX12_beginRaid_89 : decode cX12_beginRaid 89 = .ok (.putfield 258, 3) := by decide +kernel
theorem dX12_beginRaid_92 : decode cX12_beginRaid 92 = .ok (.aload_n 0, 1) := by decide +kernel
theorem dX12_beginRaid_93 : decode cX12_beginRaid 93 = .ok (.iconst 0, 1) := by decide +kernel
theorem dX12_beginRaid_94 : decode cX12_beginRaid 94 = .ok (.putfield 261, 3) := by decide +kernel
theorem dX12_beginRaid_97 : decode cX12_beginRaid 97 = .ok (.aload_n 0, 1) := by decide +kernel
theorem dX12_beginRaid_98 : decode cX12_beginRaid 98 = .ok (.iconst 0, 1) := by decide +kernel
theorem dX12_beginRaid_99 : decode cX12_beginRaid 99 = .ok (.putfield 264, 3) := by decide +kernel
theorem dX12_beginRaid_102 : decode cX12_beginRaid 102 = .ok (.aload_n 0, 1) := by decide +kernel
theorem dX12_beginRaid_103 : decode cX12_beginRaid 103 = .ok (.iconst 0, 1) := by decide +kernel
theorem dX12_beginRaid_104 : decode cX12_beginRaid 104 = .ok (.putfield 267, 3) := by decide +kernel
theorem dX12_beginRaid_107 : decode cX12_beginRaid 107 = .ok (.return_, 1) := by decide +kernel
theorem dX12_isInNow_0 : decode cX12_isInNow 0 = .ok (.aload_n 0, 1) := by decide +kernel
theorem dX12_isInNow_1 : decode cX12_isInNow 1 = .ok (.getfield 246, 3) := by decide +kernel
theorem dX12_isInNow_4 : decode cX12_isInNow 4 = .ok (.iload_n 1, 1) := by decide +kernel
theorem dX12_isInNow_5 : decode cX12_isInNow 5 = .ok (.ishr, 1) := by decide +kernel
theorem dX12_isInNow_6 : decode cX12_isInNow 6 = .ok (.iconst 1, 1) := by decide +kernel
theorem dX12_isInNow_7 : decode cX12_isInNow 7 = .ok (.iand, 1) := by decide +kernel
theorem dX12_isInNow_8 : decode cX12_isInNow 8 = .ok (.iconst 1, 1) := by decide +kernel
theorem dX12_isInNow_9 : decode cX12_isInNow 9 = .ok (.if_icmp .ne 7, 3) := by decide +kernel
theorem dX12_isInNow_12 : decode cX12_isInNow 12 = .ok (.iconst 1, 1) := by decide +kernel
theorem dX12_isInNow_13 : decode cX12_isInNow 13 = .ok (.goto 4, 3) := by decide +kernel
theorem dX12_isInNow_16 : decode cX12_isInNow 16 = .ok (.iconst 0, 1) := by decide +kernel
theorem dX12_isInNow_17 : decode cX12_isInNow 17 = .ok (.ireturn, 1) := by decide +kernel
theorem dX12_farFrom_0 : decode cX12_farFrom 0 = .ok (.aload_n 0, 1) := by decide +kernel
theorem dX12_farFrom_1 : decode cX12_farFrom 1 = .ok (.getfield 63, 3) := by decide +kernel
theorem dX12_farFrom_4 : decode cX12_farFrom 4 = .ok (.iload_n 1, 1) := by decide +kernel
theorem dX12_farFrom_5 : decode cX12_farFrom 5 = .ok (.iaload, 1) := by decide +kernel
theorem dX12_farFrom_6 : decode cX12_farFrom 6 = .ok (.aload_n 0, 1) := by decide +kernel
theorem dX12_farFrom_7 : decode cX12_farFrom 7 = .ok (.getfield 249, 3) := by decide +kernel
theorem dX12_farFrom_10 : decode cX12_farFrom 10 = .ok (.invokestatic 270, 3) := by decide +kernel
theorem dX12_farFrom_13 : decode cX12_farFrom 13 = .ok (.aload_n 0, 1) := by decide +kernel
theorem dX12_farFrom_14 : decode cX12_farFrom 14 = .ok (.getfield 66, 3) := by decide +kernel
theorem dX12_farFrom_17 : decode cX12_farFrom 17 = .ok (.iload_n 1, 1) := by decide +kernel
theorem dX12_farFrom_18 : decode cX12_farFrom 18 = .ok (.iaload, 1) := by decide +kernel
theorem dX12_farFrom_19 : decode cX12_farFrom 19 = .ok (.aload_n 0, 1) := by decide +kernel
theorem dX12_farFrom_20 : decode cX12_farFrom 20 = .ok (.getfield 252, 3) := by decide +kernel
theorem dX12_farFrom_23 : decode cX12_farFrom 23 = .ok (.invokestatic 270, 3) := by decide +kernel
theorem dX12_farFrom_26 : decode cX12_farFrom 26 = .ok (.iadd, 1) := by decide +kernel
theorem dX12_farFrom_27 : decode cX12_farFrom 27 = .ok (.ireturn, 1) := by decide +kernel
theorem dX12_besides_0 : decode cX12_besides 0 = .ok (.iconst 0, 1) := by decide +kernel
theorem dX12_besides_1 : decode cX12_besides 1 = .ok (.istore_n 2, 1) := by decide +kernel
theorem dX12_besides_2 : decode cX12_besides 2 = .ok (.iconst 0, 1) := by decide +kernel
theorem dX12_besides_3 : decode cX12_besides 3 = .ok (.istore_n 3, 1) := by decide +kernel
theorem dX12_besides_4 : decode cX12_besides 4 = .ok (.iload_n 3, 1) := by decide +kernel
theorem dX12_besides_5 : decode cX12_besides 5 = .ok (.aload_n 0, 1) := by decide +kernel
theorem dX12_besides_6 : decode cX12_besides 6 = .ok (.getfield 125, 3) := by decide +kernel
theorem dX12_besides_9 : decode cX12_besides 9 = .ok (.if_icmp .ge 60, 3) := by decide +kernel
theorem dX12_besides_12 : decode cX12_besides 12 = .ok (.iload_n 3, 1) := by decide +kernel
theorem dX12_besides_13 : decode cX12_besides 13 = .ok (.iload_n 1, 1) := by decide +kernel
theorem dX12_besides_14 : decode cX12_besides 14 = .ok (.if_icmp .eq 49, 3) := by decide +kernel
theorem dX12_besides_17 : decode cX12_besides 17 = .ok (.aload_n 0, 1) := by decide +kernel
theorem dX12_besides_18 : decode cX12_besides 18 = .ok (.iload_n 3, 1) := by decide +kernel
theorem dX12_besides_19 : decode cX12_besides 19 = .ok (.invokevirtual 273, 3) := by decide +kernel
theorem dX12_besides_22 : decode cX12_besides 22 = .ok (.ifCond .eq 41, 3) := by decide +kernel
theorem dX12_besides_25 : decode cX12_besides 25 = .ok (.aload_n 0, 1) := by decide +kernel
theorem dX12_besides_26 : decode cX12_besides 26 = .ok (.getfield 63, 3) := by decide +kernel
theorem dX12_besides_29 : decode cX12_besides 29 = .ok (.iload_n 1, 1) := by decide +kernel
theorem dX12_besides_30 : decode cX12_besides 30 = .ok (.iaload, 1) := by decide +kernel
theorem dX12_besides_31 : decode cX12_besides 31 = .ok (.aload_n 0, 1) := by decide +kernel
theorem dX12_besides_32 : decode cX12_besides 32 = .ok (.getfield 63, 3) := by decide +kernel
theorem dX12_besides_35 : decode cX12_besides 35 = .ok (.iload_n 3, 1) := by decide +kernel
theorem dX12_besides_36 : decode cX12_besides 36 = .ok (.iaload, 1) := by decide +kernel
theorem dX12_besides_37 : decode cX12_besides 37 = .ok (.invokestatic 270, 3) := by decide +kernel
theorem dX12_besides_40 : decode cX12_besides 40 = .ok (.aload_n 0, 1) := by decide +kernel
theorem dX12_besides_41 : decode cX12_besides 41 = .ok (.getfield 66, 3) := by decide +kernel
theorem dX12_besides_44 : decode cX12_besides 44 = .ok (.iload_n 1, 1) := by decide +kernel
theorem dX12_besides_45 : decode cX12_besides 45 = .ok (.iaload, 1) := by decide +kernel
theorem dX12_besides_46 : decode cX12_besides 46 = .ok (.aload_n 0, 1) := by decide +kernel
theorem dX12_besides_47 : decode cX12_besides 47 = .ok (.getfield 66, 3) := by decide +kernel
theorem dX12_besides_50 : decode cX12_besides 50 = .ok (.iload_n 3, 1) := by decide +kernel
theorem dX12_besides_51 : decode cX12_besides 51 = .ok (.iaload, 1) := by decide +kernel
theorem dX12_besides_52 : decode cX12_besides 52 = .ok (.invokestatic 270, 3) := by decide +kernel
theorem dX12_besides_55 : decode cX12_besides 55 = .ok (.iadd, 1) := by decide +kernel
theorem dX12_besides_56 : decode cX12_besides 56 = .ok (.iconst 1, 1) := by decide +kernel
theorem dX12_besides_57 : decode cX12_besides 57 = .ok (.if_icmp .ne 6, 3) := by decide +kernel
theorem dX12_besides_60 : decode cX12_besides 60 = .ok (.iinc 2 1, 3) := by decide +kernel
theorem dX12_besides_63 : decode cX12_besides 63 = .ok (.iinc 3 1, 3) := by decide +kernel
theorem dX12_besides_66 : decode cX12_besides 66 = .ok (.goto (-62), 3) := by decide +kernel
theorem dX12_besides_69 : decode cX12_besides 69 = .ok (.iload_n 2, 1) := by decide +kernel
theorem dX12_besides_70 : decode cX12_besides 70 = .ok (.ireturn, 1) := by decide +kernel
theorem dX12_actOf_0 : decode cX12_actOf 0 = .ok (.aload_n 0, 1) := by decide +kernel
theorem dX12_actOf_1 : decode cX12_actOf 1 = .ok (.iload_n 1, 1) := by decide +kernel
theorem dX12_actOf_2 : decode cX12_actOf 2 = .ok (.invokevirtual 276, 3) := by decide +kernel
theorem dX12_actOf_5 : decode cX12_actOf 5 = .ok (.istore_n 3, 1) := by decide +kernel
theorem dX12_actOf_6 : decode cX12_actOf 6 = .ok (.aload_n 0, 1) := by decide +kernel
theorem dX12_actOf_7 : decode cX12_actOf 7 = .ok (.getfield 242, 3) := by decide +kernel
theorem dX12_actOf_10 : decode cX12_actOf 10 = .ok (.ifCond .ne 35, 3) := by decide +kernel
theorem dX12_actOf_13 : decode cX12_actOf 13 = .ok (.aload_n 0, 1) := by decide +kernel
theorem dX12_actOf_14 : decode cX12_actOf 14 = .ok (.getfield 252, 3) := by decide +kernel
theorem dX12_actOf_17 : decode cX12_actOf 17 = .ok (.iconst 4, 1) := by decide +kernel
theorem dX12_actOf_18 : decode cX12_actOf 18 = .ok (.if_icmp .ge 16, 3) := by decide +kernel
theorem dX12_actOf_21 : decode cX12_actOf 21 = .ok (.iload_n 3, 1) := by decide +kernel
theorem dX12_actOf_22 : decode cX12_actOf 22 = .ok (.iconst 2, 1) := by decide +kernel
theorem dX12_actOf_23 : decode cX12_actOf 23 = .ok (.if_icmp .gt 7, 3) := by decide +kernel
theorem dX12_actOf_26 : decode cX12_actOf 26 = .ok (.iconst 2, 1) := by decide +kernel
theorem dX12_actOf_27 : decode cX12_actOf 27 = .ok (.goto 17, 3) := by decide +kernel
theorem dX12_actOf_30 : decode cX12_actOf 30 = .ok (.iconst 0, 1) := by decide +kernel
theorem dX12_actOf_31 : decode cX12_actOf 31 = .ok (.goto 13, 3) := by decide +kernel
theorem dX12_actOf_34 : decode cX12_actOf 34 = .ok (.iload_n 3, 1) := by decide +kernel
theorem dX12_actOf_35 : decode cX12_actOf 35 = .ok (.iconst 1, 1) := by decide +kernel
theorem dX12_actOf_36 : decode cX12_actOf 36 = .ok (.if_icmp .gt 7, 3) := by decide +kernel
theorem dX12_actOf_39 : decode cX12_actOf 39 = .ok (.iconst 3, 1) := by decide +kernel
theorem dX12_actOf_40 : decode cX12_actOf 40 = .ok (.goto 4, 3) := by decide +kernel
theorem dX12_actOf_43 : decode cX12_actOf 43 = .ok (.iconst 1, 1) := by decide +kernel
theorem dX12_actOf_44 : decode cX12_actOf 44 = .ok (.ireturn, 1) := by decide +kernel
theorem dX12_actOf_45 : decode cX12_actOf 45 = .ok (.aload_n 0, 1) := by decide +kernel
theorem dX12_actOf_46 : decode cX12_actOf 46 = .ok (.getfield 57, 3) := by decide +kernel
theorem dX12_actOf_49 : decode cX12_actOf 49 = .ok (.iconst 0, 1) := by decide +kernel
theorem dX12_actOf_50 : decode cX12_actOf 50 = .ok (.iload_n 3, 1) := by decide +kernel
theorem dX12_actOf_51 : decode cX12_actOf 51 = .ok (.iastore, 1) := by decide +kernel
theorem dX12_actOf_52 : decode cX12_actOf 52 = .ok (.aload_n 0, 1) := by decide +kernel
theorem dX12_actOf_53 : decode cX12_actOf 53 = .ok (.getfield 57, 3) := by decide +kernel
theorem dX12_actOf_56 : decode cX12_actOf 56 = .ok (.iconst 1, 1) := by decide +kernel
theorem dX12_actOf_57 : decode cX12_actOf 57 = .ok (.aload_n 0, 1) := by decide +kernel
theorem dX12_actOf_58 : decode cX12_actOf 58 = .ok (.getfield 252, 3) := by decide +kernel
theorem dX12_actOf_61 : decode cX12_actOf 61 = .ok (.iastore, 1) := by decide +kernel
theorem dX12_actOf_62 : decode cX12_actOf 62 = .ok (.aload_n 0, 1) := by decide +kernel
theorem dX12_actOf_63 : decode cX12_actOf 63 = .ok (.getfield 57, 3) := by decide +kernel
theorem dX12_actOf_66 : decode cX12_actOf 66 = .ok (.iconst 2, 1) := by decide +kernel
theorem dX12_actOf_67 : decode cX12_actOf 67 = .ok (.iload_n 2, 1) := by decide +kernel
theorem dX12_actOf_68 : decode cX12_actOf 68 = .ok (.iastore, 1) := by decide +kernel
theorem dX12_actOf_69 : decode cX12_actOf 69 = .ok (.aload_n 0, 1) := by decide +kernel
theorem dX12_actOf_70 : decode cX12_actOf 70 = .ok (.getfield 57, 3) := by decide +kernel
theorem dX12_actOf_73 : decode cX12_actOf 73 = .ok (.iconst 3, 1) := by decide +kernel
theorem dX12_actOf_74 : decode cX12_actOf 74 = .ok (.aload_n 0, 1) := by decide +kernel
theorem dX12_actOf_75 : decode cX12_actOf 75 = .ok (.getfield 16, 3) := by decide +kernel
theorem dX12_actOf_78 : decode cX12_actOf 78 = .ok (.iload_n 1, 1) := by decide +kernel
theorem dX12_actOf_79 : decode cX12_actOf 79 = .ok (.iaload, 1) := by decide +kernel
theorem dX12_actOf_80 : decode cX12_actOf 80 = .ok (.iastore, 1) := by decide +kernel
theorem dX12_actOf_81 : decode cX12_actOf 81 = .ok (.aload_n 0, 1) := by decide +kernel
theorem dX12_actOf_82 : decode cX12_actOf 82 = .ok (.getfield 57, 3) := by decide +kernel
theorem dX12_actOf_85 : decode cX12_actOf 85 = .ok (.iconst 4, 1) := by decide +kernel
theorem dX12_actOf_86 : decode cX12_actOf 86 = .ok (.aload_n 0, 1) := by decide +kernel
theorem dX12_actOf_87 : decode cX12_actOf 87 = .ok (.getfield 246, 3) := by decide +kernel
theorem dX12_actOf_90 : decode cX12_actOf 90 = .ok (.invokestatic 279, 3) := by decide +kernel
theorem dX12_actOf_93 : decode cX12_actOf 93 = .ok (.iastore, 1) := by decide +kernel
theorem dX12_actOf_94 : decode cX12_actOf 94 = .ok (.aload_n 0, 1) := by decide +kernel
theorem dX12_actOf_95 : decode cX12_actOf 95 = .ok (.getfield 57, 3) := by decide +kernel
theorem dX12_actOf_98 : decode cX12_actOf 98 = .ok (.iconst 5, 1) := by decide +kernel
theorem dX12_actOf_99 : decode cX12_actOf 99 = .ok (.aload_n 0, 1) := by decide +kernel
theorem dX12_actOf_100 : decode cX12_actOf 100 = .ok (.iload_n 1, 1) := by decide +kernel
theorem dX12_actOf_101 : decode cX12_actOf 101 = .ok (.invokevirtual 282, 3) := by decide +kernel
theorem dX12_actOf_104 : decode cX12_actOf 104 = .ok (.iastore, 1) := by decide +kernel
theorem dX12_actOf_105 : decode cX12_actOf 105 = .ok (.aload_n 0, 1) := by decide +kernel
theorem dX12_actOf_106 : decode cX12_actOf 106 = .ok (.iconst 0, 1) := by decide +kernel
theorem dX12_actOf_107 : decode cX12_actOf 107 = .ok (.invokevirtual 285, 3) := by decide +kernel
theorem dX12_actOf_110 : decode cX12_actOf 110 = .ok (.iconst 4, 1) := by decide +kernel
theorem dX12_actOf_111 : decode cX12_actOf 111 = .ok (.irem, 1) := by decide +kernel
theorem dX12_actOf_112 : decode cX12_actOf 112 = .ok (.istore 4, 2) := by decide +kernel
theorem dX12_actOf_114 : decode cX12_actOf 114 = .ok (.iload 4, 2) := by decide +kernel
theorem dX12_actOf_116 : decode cX12_actOf 116 = .ok (.ifCond .ge 9, 3) := by decide +kernel
theorem dX12_actOf_119 : decode cX12_actOf 119 = .ok (.iload 4, 2) := by decide +kernel
theorem dX12_actOf_121 : decode cX12_actOf 121 = .ok (.ineg, 1) := by decide +kernel
theorem dX12_actOf_122 : decode cX12_actOf 122 = .ok (.goto 5, 3) := by decide +kernel
theorem dX12_actOf_125 : decode cX12_actOf 125 = .ok (.iload 4, 2) := by decide +kernel
theorem dX12_actOf_127 : decode cX12_actOf 127 = .ok (.ireturn, 1) := by decide +kernel
theorem dX12_does_0 : decode cX12_does 0 = .ok (.aload_n 0, 1) := by decide +kernel
theorem dX12_does_1 : decode cX12_does 1 = .ok (.iload_n 1, 1) := by decide +kernel
theorem dX12_does_2 : decode cX12_does 2 = .ok (.invokevirtual 162, 3) := by decide +kernel
theorem dX12_does_5 : decode cX12_does 5 = .ok (.ifCond .eq 45, 3) := by decide +kernel
theorem dX12_does_8 : decode cX12_does 8 = .ok (.aload_n 0, 1) := by decide +kernel
theorem dX12_does_9 : decode cX12_does 9 = .ok (.getfield 19, 3) := by decide +kernel
theorem dX12_does_12 : decode cX12_does 12 = .ok (.iload_n 1, 1) := by decide +kernel
theorem dX12_does_13 : decode cX12_does 13 = .ok (.iaload, 1) := by decide +kernel
theorem dX12_does_14 : decode cX12_does 14 = .ok (.ifCond .eq 36, 3) := by decide +kernel
theorem dX12_does_17 : decode cX12_does 17 = .ok (.iload_n 2, 1) := by decide +kernel
theorem dX12_does_18 : decode cX12_does 18 = .ok (.ifCond .lt 32, 3) := by decide +kernel
theorem dX12_does_21 : decode cX12_does 21 = .ok (.iload_n 2, 1) := by decide +kernel
theorem dX12_does_22 : decode cX12_does 22 = .ok (.bipush 10, 2) := by decide +kernel
theorem dX12_does_24 : decode cX12_does 24 = .ok (.idiv, 1) := by decide +kernel
theorem dX12_does_25 : decode cX12_does 25 = .ok (.bipush 8, 2) := by decide +kernel
theorem dX12_does_27 : decode cX12_does 27 = .ok (.if_icmp .gt 23, 3) := by decide +kernel
theorem dX12_does_30 : decode cX12_does 30 = .ok (.iload_n 2, 1) := by decide +kernel
theorem dX12_does_31 : decode cX12_does 31 = .ok (.bipush 10, 2) := by decide +kernel
theorem dX12_does_33 : decode cX12_does 33 = .ok (.irem, 1) := by decide +kernel
theorem dX12_does_34 : decode cX12_does 34 = .ok (.invokestatic 136, 3) := by decide +kernel
theorem dX12_does_37 : decode cX12_does 37 = .ok (.ifCond .eq 13, 3) := by decide +kernel
theorem dX12_does_40 : decode cX12_does 40 = .ok (.iload_n 3, 1) := by decide +kernel
theorem dX12_does_41 : decode cX12_does 41 = .ok (.iconst 0, 1) := by decide +kernel
theorem dX12_does_42 : decode cX12_does 42 = .ok (.bipush 99, 2) := by decide +kernel
theorem dX12_does_44 : decode cX12_does 44 = .ok (.invokestatic 128, 3) := by decide +kernel
theorem dX12_does_47 : decode cX12_does 47 = .ok (.ifCond .ne 5, 3) := by decide +kernel
theorem dX12_does_50 : decode cX12_does 50 = .ok (.iconst (-1), 1) := by decide +kernel
theorem dX12_does_51 : decode cX12_does 51 = .ok (.ireturn, 1) := by decide +kernel
theorem dX12_does_52 : decode cX12_does 52 = .ok (.aload_n 0, 1) := by decide +kernel
theorem dX12_does_53 : decode cX12_does 53 = .ok (.invokevirtual 288, 3) := by decide +kernel
theorem dX12_does_56 : decode cX12_does 56 = .ok (.aload_n 0, 1) := by decide +kernel
theorem dX12_does_57 : decode cX12_does 57 = .ok (.iload_n 2, 1) := by decide +kernel
theorem dX12_does_58 : decode cX12_does 58 = .ok (.bipush 10, 2) := by decide +kernel
theorem dX12_does_60 : decode cX12_does 60 = .ok (.idiv, 1) := by decide +kernel
theorem dX12_does_61 : decode cX12_does 61 = .ok (.putfield 252, 3) := by decide +kernel
theorem dX12_does_64 : decode cX12_does 64 = .ok (.aload_n 0, 1) := by decide +kernel
theorem dX12_does_65 : decode cX12_does 65 = .ok (.iload_n 2, 1) := by decide +kernel
theorem dX12_does_66 : decode cX12_does 66 = .ok (.bipush 10, 2) := by decide +kernel
theorem dX12_does_68 : decode cX12_does 68 = .ok (.irem, 1) := by decide +kernel
theorem dX12_does_69 : decode cX12_does 69 = .ok (.putfield 249, 3) := by decide +kernel
theorem dX12_does_72 : decode cX12_does 72 = .ok (.aload_n 0, 1) := by decide +kernel
theorem dX12_does_73 : decode cX12_does 73 = .ok (.iload_n 1, 1) := by decide +kernel
theorem dX12_does_74 : decode cX12_does 74 = .ok (.iload_n 3, 1) := by decide +kernel
theorem dX12_does_75 : decode cX12_does 75 = .ok (.invokevirtual 291, 3) := by decide +kernel
theorem dX12_does_78 : decode cX12_does 78 = .ok (.ireturn, 1) := by decide +kernel
theorem dX12_movesTo_0 : decode cX12_movesTo 0 = .ok (.iload_n 1, 1) := by decide +kernel
theorem dX12_movesTo_1 : decode cX12_movesTo 1 = .ok (.tableswitch 115 1 4 #[31, 53, 73, 93], 31) := by decide +kernel
theorem dX12_movesTo_32 : decode cX12_movesTo 32 = .ok (.aload_n 0, 1) := by decide +kernel
theorem dX12_movesTo_33 : decode cX12_movesTo 33 = .ok (.getfield 252, 3) := by decide +kernel
theorem dX12_movesTo_36 : decode cX12_movesTo 36 = .ok (.bipush 8, 2) := by decide +kernel
theorem dX12_movesTo_38 : decode cX12_movesTo 38 = .ok (.if_icmp .ge 78, 3) := by decide +kernel
theorem dX12_movesTo_41 : decode cX12_movesTo 41 = .ok (.aload_n 0, 1) := by decide +kernel
theorem dX12_movesTo_42 : decode cX12_movesTo 42 = .ok (.dup, 1) := by decide +kernel
theorem dX12_movesTo_43 : decode cX12_movesTo 43 = .ok (.getfield 252, 3) := by decide +kernel
theorem dX12_movesTo_46 : decode cX12_movesTo 46 = .ok (.iconst 1, 1) := by decide +kernel
theorem dX12_movesTo_47 : decode cX12_movesTo 47 = .ok (.iadd, 1) := by decide +kernel
theorem dX12_movesTo_48 : decode cX12_movesTo 48 = .ok (.putfield 252, 3) := by decide +kernel
theorem dX12_movesTo_51 : decode cX12_movesTo 51 = .ok (.goto 65, 3) := by decide +kernel
theorem dX12_movesTo_54 : decode cX12_movesTo 54 = .ok (.aload_n 0, 1) := by decide +kernel
theorem dX12_movesTo_55 : decode cX12_movesTo 55 = .ok (.getfield 252, 3) := by decide +kernel
theorem dX12_movesTo_58 : decode cX12_movesTo 58 = .ok (.ifCond .le 58, 3) := by decide +kernel
theorem dX12_movesTo_61 : decode cX12_movesTo 61 = .ok (.aload_n 0, 1) := by decide +kernel
theorem dX12_movesTo_62 : decode cX12_movesTo 62 = .ok (.dup, 1) := by decide +kernel
theorem dX12_movesTo_63 : decode cX12_movesTo 63 = .ok (.getfield 252, 3) := by decide +kernel
theorem dX12_movesTo_66 : decode cX12_movesTo 66 = .ok (.iconst 1, 1) := by decide +kernel
theorem dX12_movesTo_67 : decode cX12_movesTo 67 = .ok (.isub, 1) := by decide +kernel
theorem dX12_movesTo_68 : decode cX12_movesTo 68 = .ok (.putfield 252, 3) := by decide +kernel
theorem dX12_movesTo_71 : decode cX12_movesTo 71 = .ok (.goto 45, 3) := by decide +kernel
theorem dX12_movesTo_74 : decode cX12_movesTo 74 = .ok (.aload_n 0, 1) := by decide +kernel
theorem dX12_movesTo_75 : decode cX12_movesTo 75 = .ok (.getfield 249, 3) := by decide +kernel
theorem dX12_movesTo_78 : decode cX12_movesTo 78 = .ok (.ifCond .le 38, 3) := by decide +kernel
theorem dX12_movesTo_81 : decode cX12_movesTo 81 = .ok (.aload_n 0, 1) := by decide +kernel
theorem dX12_movesTo_82 : decode cX12_movesTo 82 = .ok (.dup, 1) := by decide +kernel
theorem dX12_movesTo_83 : decode cX12_movesTo 83 = .ok (.getfield 249, 3) := by decide +kernel
theorem dX12_movesTo_86 : decode cX12_movesTo 86 = .ok (.iconst 1, 1) := by decide +kernel
theorem dX12_movesTo_87 : decode cX12_movesTo 87 = .ok (.isub, 1) := by decide +kernel
theorem dX12_movesTo_88 : decode cX12_movesTo 88 = .ok (.putfield 249, 3) := by decide +kernel
theorem dX12_movesTo_91 : decode cX12_movesTo 91 = .ok (.goto 25, 3) := by decide +kernel
theorem dX12_movesTo_94 : decode cX12_movesTo 94 = .ok (.aload_n 0, 1) := by decide +kernel
theorem dX12_movesTo_95 : decode cX12_movesTo 95 = .ok (.getfield 249, 3) := by decide +kernel
theorem dX12_movesTo_98 : decode cX12_movesTo 98 = .ok (.bipush 8, 2) := by decide +kernel
theorem dX12_movesTo_100 : decode cX12_movesTo 100 = .ok (.if_icmp .ge 16, 3) := by decide +kernel
theorem dX12_movesTo_103 : decode cX12_movesTo 103 = .ok (.aload_n 0, 1) := by decide +kernel
theorem dX12_movesTo_104 : decode cX12_movesTo 104 = .ok (.dup, 1) := by decide +kernel
theorem dX12_movesTo_105 : decode cX12_movesTo 105 = .ok (.getfield 249, 3) := by decide +kernel
theorem dX12_movesTo_108 : decode cX12_movesTo 108 = .ok (.iconst 1, 1) := by decide +kernel
theorem dX12_movesTo_109 : decode cX12_movesTo 109 = .ok (.iadd, 1) := by decide +kernel
theorem dX12_movesTo_110 : decode cX12_movesTo 110 = .ok (.putfield 249, 3) := by decide +kernel
theorem dX12_movesTo_113 : decode cX12_movesTo 113 = .ok (.goto 3, 3) := by decide +kernel
theorem dX12_movesTo_116 : decode cX12_movesTo 116 = .ok (.return_, 1) := by decide +kernel
theorem dX12_comesNearer_0 : decode cX12_comesNearer 0 = .ok (.aload_n 0, 1) := by decide +kernel
theorem dX12_comesNearer_1 : decode cX12_comesNearer 1 = .ok (.getfield 63, 3) := by decide +kernel
theorem dX12_comesNearer_4 : decode cX12_comesNearer 4 = .ok (.iload_n 1, 1) := by decide +kernel
theorem dX12_comesNearer_5 : decode cX12_comesNearer 5 = .ok (.iaload, 1) := by decide +kernel
theorem dX12_comesNearer_6 : decode cX12_comesNearer 6 = .ok (.istore_n 2, 1) := by decide +kernel
theorem dX12_comesNearer_7 : decode cX12_comesNearer 7 = .ok (.aload_n 0, 1) := by decide +kernel
theorem dX12_comesNearer_8 : decode cX12_comesNearer 8 = .ok (.getfield 66, 3) := by decide +kernel
theorem dX12_comesNearer_11 : decode cX12_comesNearer 11 = .ok (.iload_n 1, 1) := by decide +kernel
theorem dX12_comesNearer_12 : decode cX12_comesNearer 12 = .ok (.iaload, 1) := by decide +kernel
theorem dX12_comesNearer_13 : decode cX12_comesNearer 13 = .ok (.istore_n 3, 1) := by decide +kernel
theorem dX12_comesNearer_14 : decode cX12_comesNearer 14 = .ok (.iload_n 2, 1) := by decide +kernel
theorem dX12_comesNearer_15 : decode cX12_comesNearer 15 = .ok (.aload_n 0, 1) := by decide +kernel
theorem dX12_comesNearer_16 : decode cX12_comesNearer 16 = .ok (.getfield 249, 3) := by decide +kernel
theorem dX12_comesNearer_19 : decode cX12_comesNearer 19 = .ok (.if_icmp .eq 22, 3) := by decide +kernel
theorem dX12_comesNearer_22 : decode cX12_comesNearer 22 = .ok (.iload_n 2, 1) := by decide +kernel
theorem dX12_comesNearer_23 : decode cX12_comesNearer 23 = .ok (.iload_n 2, 1) := by decide +kernel
theorem dX12_comesNearer_24 : decode cX12_comesNearer 24 = .ok (.aload_n 0, 1) := by decide +kernel
theorem dX12_comesNearer_25 : decode cX12_comesNearer 25 = .ok (.getfield 249, 3) := by decide +kernel
theorem dX12_comesNearer_28 : decode cX12_comesNearer 28 = .ok (.if_icmp .ge 7, 3) := by decide +kernel
theorem dX12_comesNearer_31 : decode cX12_comesNearer 31 = .ok (.iconst 1, 1) := by decide +kernel
theorem dX12_comesNearer_32 : decode cX12_comesNearer 32 = .ok (.goto 4, 3) := by decide +kernel
theorem dX12_comesNearer_35 : decode cX12_comesNearer 35 = .ok (.iconst (-1), 1) := by decide +kernel
theorem dX12_comesNearer_36 : decode cX12_comesNearer 36 = .ok (.iadd, 1) := by decide +kernel
theorem dX12_comesNearer_37 : decode cX12_comesNearer 37 = .ok (.istore_n 2, 1) := by decide +kernel
theorem dX12_comesNearer_38 : decode cX12_comesNearer 38 = .ok (.goto 27, 3) := by decide +kernel
theorem dX12_comesNearer_41 : decode cX12_comesNearer 41 = .ok (.iload_n 3, 1) := by decide +kernel
theorem dX12_comesNearer_42 : decode cX12_comesNearer 42 = .ok (.aload_n 0, 1) := by decide +kernel
theorem dX12_comesNearer_43 : decode cX12_comesNearer 43 = .ok (.getfield 252, 3) := by decide +kernel
theorem dX12_comesNearer_46 : decode cX12_comesNearer 46 = .ok (.if_icmp .eq 19, 3) := by decide +kernel
theorem dX12_comesNearer_49 : decode cX12_comesNearer 49 = .ok (.iload_n 3, 1) := by decide +kernel
theorem dX12_comesNearer_50 : decode cX12_comesNearer 50 = .ok (.iload_n 3, 1) := by decide +kernel
theorem dX12_comesNearer_51 : decode cX12_comesNearer 51 = .ok (.aload_n 0, 1) := by decide +kernel
theorem dX12_comesNearer_52 : decode cX12_comesNearer 52 = .ok (.getfield 252, 3) := by decide +kernel
theorem dX12_comesNearer_55 : decode cX12_comesNearer 55 = .ok (.if_icmp .ge 7, 3) := by decide +kernel
theorem dX12_comesNearer_58 : decode cX12_comesNearer 58 = .ok (.iconst 1, 1) := by decide +kernel
theorem dX12_comesNearer_59 : decode cX12_comesNearer 59 = .ok (.goto 4, 3) := by decide +kernel
theorem dX12_comesNearer_62 : decode cX12_comesNearer 62 = .ok (.iconst (-1), 1) := by decide +kernel
theorem dX12_comesNearer_63 : decode cX12_comesNearer 63 = .ok (.iadd, 1) := by decide +kernel
theorem dX12_comesNearer_64 : decode cX12_comesNearer 64 = .ok (.istore_n 3, 1) := by decide +kernel
theorem dX12_comesNearer_65 : decode cX12_comesNearer 65 = .ok (.iload_n 3, 1) := by decide +kernel
theorem dX12_comesNearer_66 : decode cX12_comesNearer 66 = .ok (.ifCond .eq 19, 3) := by decide +kernel
theorem dX12_comesNearer_69 : decode cX12_comesNearer 69 = .ok (.iload_n 2, 1) := by decide +kernel
theorem dX12_comesNearer_70 : decode cX12_comesNearer 70 = .ok (.aload_n 0, 1) := by decide +kernel
theorem dX12_comesNearer_71 : decode cX12_comesNearer 71 = .ok (.getfield 249, 3) := by decide +kernel
theorem dX12_comesNearer_74 : decode cX12_comesNearer 74 = .ok (.if_icmp .ne 12, 3) := by decide +kernel
theorem dX12_comesNearer_77 : decode cX12_comesNearer 77 = .ok (.iload_n 3, 1) := by decide +kernel
theorem dX12_comesNearer_78 : decode cX12_comesNearer 78 = .ok (.aload_n 0, 1) := by decide +kernel
theorem dX12_comesNearer_79 : decode cX12_comesNearer 79 = .ok (.getfield 252, 3) := by decide +kernel
theorem dX12_comesNearer_82 : decode cX12_comesNearer 82 = .ok (.if_icmp .ne 4, 3) := by decide +kernel
theorem dX12_comesNearer_85 : decode cX12_comesNearer 85 = .ok (.return_, 1) := by decide +kernel
theorem dX12_comesNearer_86 : decode cX12_comesNearer 86 = .ok (.aload_n 0, 1) := by decide +kernel
theorem dX12_comesNearer_87 : decode cX12_comesNearer 87 = .ok (.getfield 63, 3) := by decide +kernel
theorem dX12_comesNearer_90 : decode cX12_comesNearer 90 = .ok (.iload_n 1, 1) := by decide +kernel
theorem dX12_comesNearer_91 : decode cX12_comesNearer 91 = .ok (.iload_n 2, 1) := by decide +kernel
theorem dX12_comesNearer_92 : decode cX12_comesNearer 92 = .ok (.iastore, 1) := by decide +kernel
theorem dX12_comesNearer_93 : decode cX12_comesNearer 93 = .ok (.aload_n 0, 1) := by decide +kernel
theorem dX12_comesNearer_94 : decode cX12_comesNearer 94 = .ok (.getfield 66, 3) := by decide +kernel
theorem dX12_comesNearer_97 : decode cX12_comesNearer 97 = .ok (.iload_n 1, 1) := by decide +kernel
theorem dX12_comesNearer_98 : decode cX12_comesNearer 98 = .ok (.iload_n 3, 1) := by decide +kernel
theorem dX12_comesNearer_99 : decode cX12_comesNearer 99 = .ok (.iastore, 1) := by decide +kernel
theorem dX12_comesNearer_100 : decode cX12_comesNearer 100 = .ok (.return_, 1) := by decide +kernel
theorem dX12_actsNow_0 : decode cX12_actsNow 0 = .ok (.aload_n 0, 1) := by decide +kernel
theorem dX12_actsNow_1 : decode cX12_actsNow 1 = .ok (.iload_n 1, 1) := by decide +kernel
theorem dX12_actsNow_2 : decode cX12_actsNow 2 = .ok (.aload_n 0, 1) := by decide +kernel
theorem dX12_actsNow_3 : decode cX12_actsNow 3 = .ok (.getfield 255, 3) := by decide +kernel
theorem dX12_actsNow_6 : decode cX12_actsNow 6 = .ok (.invokevirtual 291, 3) := by decide +kernel
theorem dX12_actsNow_9 : decode cX12_actsNow 9 = .ok (.istore_n 2, 1) := by decide +kernel
theorem dX12_actsNow_10 : decode cX12_actsNow 10 = .ok (.iload_n 2, 1) := by decide +kernel
theorem dX12_actsNow_11 : decode cX12_actsNow 11 = .ok (.iconst 1, 1) := by decide +kernel
theorem dX12_actsNow_12 : decode cX12_actsNow 12 = .ok (.if_icmp .ne 8, 3) := by decide +kernel
theorem dX12_actsNow_15 : decode cX12_actsNow 15 = .ok (.aload_n 0, 1) := by decide +kernel
theorem dX12_actsNow_16 : decode cX12_actsNow 16 = .ok (.iload_n 1, 1) := by decide +kernel
theorem dX12_actsNow_17 : decode cX12_actsNow 17 = .ok (.invokevirtual 294, 3) := by decide +kernel
theorem dX12_actsNow_20 : decode cX12_actsNow 20 = .ok (.iload_n 2, 1) := by decide +kernel
theorem dX12_actsNow_21 : decode cX12_actsNow 21 = .ok (.iconst 2, 1) := by decide +kernel
theorem dX12_actsNow_22 : decode cX12_actsNow 22 = .ok (.if_icmp .ne 24, 3) := by decide +kernel
theorem dX12_actsNow_25 : decode cX12_actsNow 25 = .ok (.aload_n 0, 1) := by decide +kernel
theorem dX12_actsNow_26 : decode cX12_actsNow 26 = .ok (.getfield 66, 3) := by decide +kernel
theorem dX12_actsNow_29 : decode cX12_actsNow 29 = .ok (.iload_n 1, 1) := by decide +kernel
theorem dX12_actsNow_30 : decode cX12_actsNow 30 = .ok (.iaload, 1) := by decide +kernel
theorem dX12_actsNow_31 : decode cX12_actsNow 31 = .ok (.bipush 8, 2) := by decide +kernel
theorem dX12_actsNow_33 : decode cX12_actsNow 33 = .ok (.if_icmp .ge 13, 3) := by decide +kernel
theorem dX12_actsNow_36 : decode cX12_actsNow 36 = .ok (.aload_n 0, 1) := by decide +kernel
theorem dX12_actsNow_37 : decode cX12_actsNow 37 = .ok (.getfield 66, 3) := by decide +kernel
theorem dX12_actsNow_40 : decode cX12_actsNow 40 = .ok (.iload_n 1, 1) := by decide +kernel
theorem dX12_actsNow_41 : decode cX12_actsNow 41 = .ok (.dup2, 1) := by decide +kernel
theorem dX12_actsNow_42 : decode cX12_actsNow 42 = .ok (.iaload, 1) := by decide +kernel
theorem dX12_actsNow_43 : decode cX12_actsNow 43 = .ok (.iconst 1, 1) := by decide +kernel
theorem dX12_actsNow_44 : decode cX12_actsNow 44 = .ok (.iadd, 1) := by decide +kernel
theorem dX12_actsNow_45 : decode cX12_actsNow 45 = .ok (.iastore, 1) := by decide +kernel
theorem dX12_actsNow_46 : decode cX12_actsNow 46 = .ok (.iload_n 2, 1) := by decide +kernel
theorem dX12_actsNow_47 : decode cX12_actsNow 47 = .ok (.iconst 3, 1) := by decide +kernel
theorem dX12_actsNow_48 : decode cX12_actsNow 48 = .ok (.if_icmp .ne 32, 3) := by decide +kernel
theorem dX12_actsNow_51 : decode cX12_actsNow 51 = .ok (.aload_n 0, 1) := by decide +kernel
theorem dX12_actsNow_52 : decode cX12_actsNow 52 = .ok (.iload_n 1, 1) := by decide +kernel
theorem dX12_actsNow_53 : decode cX12_actsNow 53 = .ok (.invokevirtual 276, 3) := by decide +kernel
theorem dX12_actsNow_56 : decode cX12_actsNow 56 = .ok (.iconst 1, 1) := by decide +kernel
theorem dX12_actsNow_57 : decode cX12_actsNow 57 = .ok (.if_icmp .gt 23, 3) := by decide +kernel
theorem dX12_actsNow_60 : decode cX12_actsNow 60 = .ok (.aload_n 0, 1) := by decide +kernel
theorem dX12_actsNow_61 : decode cX12_actsNow 61 = .ok (.getfield 252, 3) := by decide +kernel
theorem dX12_actsNow_64 : decode cX12_actsNow 64 = .ok (.iconst 1, 1) := by decide +kernel
theorem dX12_actsNow_65 : decode cX12_actsNow 65 = .ok (.if_icmp .lt 15, 3) := by decide +kernel
theorem dX12_actsNow_68 : decode cX12_actsNow 68 = .ok (.aload_n 0, 1) := by decide +kernel
theorem dX12_actsNow_69 : decode cX12_actsNow 69 = .ok (.dup, 1) := by decide +kernel
theorem dX12_actsNow_70 : decode cX12_actsNow 70 = .ok (.getfield 267, 3) := by decide +kernel
theorem dX12_actsNow_73 : decode cX12_actsNow 73 = .ok (.iconst 1, 1) := by decide +kernel
theorem dX12_actsNow_74 : decode cX12_actsNow 74 = .ok (.iload_n 1, 1) := by decide +kernel
theorem dX12_actsNow_75 : decode cX12_actsNow 75 = .ok (.ishl, 1) := by decide +kernel
theorem dX12_actsNow_76 : decode cX12_actsNow 76 = .ok (.ior, 1) := by decide +kernel
theorem dX12_actsNow_77 : decode cX12_actsNow 77 = .ok (.putfield 267, 3) := by decide +kernel
theorem dX12_actsNow_80 : decode cX12_actsNow 80 = .ok (.return_, 1) := by decide +kernel
theorem dX12_strongNow_0 : decode cX12_strongNow 0 = .ok (.iconst 0, 1) := by decide +kernel
theorem dX12_strongNow_1 : decode cX12_strongNow 1 = .ok (.istore_n 1, 1) := by decide +kernel
theorem dX12_strongNow_2 : decode cX12_strongNow 2 = .ok (.iconst 0, 1) := by decide +kernel
theorem dX12_strongNow_3 : decode cX12_strongNow 3 = .ok (.istore_n 2, 1) := by decide +kernel
theorem dX12_strongNow_4 : decode cX12_strongNow 4 = .ok (.iload_n 2, 1) := by decide +kernel
theorem dX12_strongNow_5 : decode cX12_strongNow 5 = .ok (.aload_n 0, 1) := by decide +kernel
theorem dX12_strongNow_6 : decode cX12_strongNow 6 = .ok (.getfield 125, 3) := by decide +kernel
theorem dX12_strongNow_9 : decode cX12_strongNow 9 = .ok (.if_icmp .ge 30, 3) := by decide +kernel
theorem dX12_strongNow_12 : decode cX12_strongNow 12 = .ok (.aload_n 0, 1) := by decide +kernel
theorem dX12_strongNow_13 : decode cX12_strongNow 13 = .ok (.getfield 267, 3) := by decide +kernel
theorem dX12_strongNow_16 : decode cX12_strongNow 16 = .ok (.iload_n 2, 1) := by decide +kernel
theorem dX12_strongNow_17 : decode cX12_strongNow 17 = .ok (.ishr, 1) := by decide +kernel
theorem dX12_strongNow_18 : decode cX12_strongNow 18 = .ok (.iconst 1, 1) := by decide +kernel
theorem dX12_strongNow_19 : decode cX12_strongNow 19 = .ok (.iand, 1) := by decide +kernel
theorem dX12_strongNow_20 : decode cX12_strongNow 20 = .ok (.iconst 1, 1) := by decide +kernel
theorem dX12_strongNow_21 : decode cX12_strongNow 21 = .ok (.if_icmp .ne 12, 3) := by decide +kernel
theorem dX12_strongNow_24 : decode cX12_strongNow 24 = .ok (.iload_n 1, 1) := by decide +kernel
theorem dX12_strongNow_25 : decode cX12_strongNow 25 = .ok (.aload_n 0, 1) := by decide +kernel
theorem dX12_strongNow_26 : decode cX12_strongNow 26 = .ok (.getfield 16, 3) := by decide +kernel
theorem dX12_strongNow_29 : decode cX12_strongNow 29 = .ok (.iload_n 2, 1) := by decide +kernel
theorem dX12_strongNow_30 : decode cX12_strongNow 30 = .ok (.iaload, 1) := by decide +kernel
theorem dX12_strongNow_31 : decode cX12_strongNow 31 = .ok (.iadd, 1) := by decide +kernel
theorem dX12_strongNow_32 : decode cX12_strongNow 32 = .ok (.istore_n 1, 1) := by decide +kernel
theorem dX12_strongNow_33 : decode cX12_strongNow 33 = .ok (.iinc 2 1, 3) := by decide +kernel
theorem dX12_strongNow_36 : decode cX12_strongNow 36 = .ok (.goto (-32), 3) := by decide +kernel
theorem dX12_strongNow_39 : decode cX12_strongNow 39 = .ok (.iload_n 1, 1) := by decide +kernel
theorem dX12_strongNow_40 : decode cX12_strongNow 40 = .ok (.ireturn, 1) := by decide +kernel
theorem dX12_goSecond_0 : decode cX12_goSecond 0 = .ok (.aload_n 0, 1) := by decide +kernel
theorem dX12_goSecond_1 : decode cX12_goSecond 1 = .ok (.getfield 252, 3) := by decide +kernel
theorem dX12_goSecond_4 : decode cX12_goSecond 4 = .ok (.istore_n 2, 1) := by decide +kernel
theorem dX12_goSecond_5 : decode cX12_goSecond 5 = .ok (.aload_n 0, 1) := by decide +kernel
theorem dX12_goSecond_6 : decode cX12_goSecond 6 = .ok (.iload_n 1, 1) := by decide +kernel
theorem dX12_goSecond_7 : decode cX12_goSecond 7 = .ok (.invokevirtual 298, 3) := by decide +kernel
theorem dX12_goSecond_10 : decode cX12_goSecond 10 = .ok (.aload_n 0, 1) := by decide +kernel
theorem dX12_goSecond_11 : decode cX12_goSecond 11 = .ok (.iconst 0, 1) := by decide +kernel
theorem dX12_goSecond_12 : decode cX12_goSecond 12 = .ok (.putfield 267, 3) := by decide +kernel
theorem dX12_goSecond_15 : decode cX12_goSecond 15 = .ok (.aload_n 0, 1) := by decide +kernel
theorem dX12_goSecond_16 : decode cX12_goSecond 16 = .ok (.getfield 252, 3) := by decide +kernel
theorem dX12_goSecond_19 : decode cX12_goSecond 19 = .ok (.ifCond .ne 23, 3) := by decide +kernel
theorem dX12_goSecond_22 : decode cX12_goSecond 22 = .ok (.iload_n 2, 1) := by decide +kernel
theorem dX12_goSecond_23 : decode cX12_goSecond 23 = .ok (.ifCond .le 19, 3) := by decide +kernel
theorem dX12_goSecond_26 : decode cX12_goSecond 26 = .ok (.aload_n 0, 1) := by decide +kernel
theorem dX12_goSecond_27 : decode cX12_goSecond 27 = .ok (.iconst 1, 1) := by decide +kernel
theorem dX12_goSecond_28 : decode cX12_goSecond 28 = .ok (.putfield 258, 3) := by decide +kernel
theorem dX12_goSecond_31 : decode cX12_goSecond 31 = .ok (.aload_n 0, 1) := by decide +kernel
theorem dX12_goSecond_32 : decode cX12_goSecond 32 = .ok (.dup, 1) := by decide +kernel
theorem dX12_goSecond_33 : decode cX12_goSecond 33 = .ok (.getfield 255, 3) := by decide +kernel
theorem dX12_goSecond_36 : decode cX12_goSecond 36 = .ok (.iconst 1, 1) := by decide +kernel
theorem dX12_goSecond_37 : decode cX12_goSecond 37 = .ok (.iadd, 1) := by decide +kernel
theorem dX12_goSecond_38 : decode cX12_goSecond 38 = .ok (.putfield 255, 3) := by decide +kernel
theorem dX12_goSecond_41 : decode cX12_goSecond 41 = .ok (.return_, 1) := by decide +kernel
theorem dX12_goSecond_42 : decode cX12_goSecond 42 = .ok (.aload_n 0, 1) := by decide +kernel
theorem dX12_goSecond_43 : decode cX12_goSecond 43 = .ok (.getfield 252, 3) := by decide +kernel
theorem dX12_goSecond_46 : decode cX12_goSecond 46 = .ok (.aload_n 0, 1) := by decide +kernel
theorem dX12_goSecond_47 : decode cX12_goSecond 47 = .ok (.getfield 264, 3) := by decide +kernel
theorem dX12_goSecond_50 : decode cX12_goSecond 50 = .ok (.if_icmp .le 11, 3) := by decide +kernel
theorem dX12_goSecond_53 : decode cX12_goSecond 53 = .ok (.aload_n 0, 1) := by decide +kernel
theorem dX12_goSecond_54 : decode cX12_goSecond 54 = .ok (.aload_n 0, 1) := by decide +kernel
theorem dX12_goSecond_55 : decode cX12_goSecond 55 = .ok (.getfield 252, 3) := by decide +kernel
theorem dX12_goSecond_58 : decode cX12_goSecond 58 = .ok (.putfield 264, 3) := by decide +kernel
theorem dX12_goSecond_61 : decode cX12_goSecond 61 = .ok (.iconst 0, 1) := by decide +kernel
theorem dX12_goSecond_62 : decode cX12_goSecond 62 = .ok (.istore_n 3, 1) := by decide +kernel
theorem dX12_goSecond_63 : decode cX12_goSecond 63 = .ok (.iload_n 3, 1) := by decide +kernel
theorem dX12_goSecond_64 : decode cX12_goSecond 64 = .ok (.aload_n 0, 1) := by decide +kernel
theorem dX12_goSecond_65 : decode cX12_goSecond 65 = .ok (.getfield 125, 3) := by decide +kernel
theorem dX12_goSecond_68 : decode cX12_goSecond 68 = .ok (.if_icmp .ge 51, 3) := by decide +kernel
theorem dX12_goSecond_71 : decode cX12_goSecond 71 = .ok (.aload_n 0, 1) := by decide +kernel
theorem dX12_goSecond_72 : decode cX12_goSecond 72 = .ok (.iload_n 3, 1) := by decide +kernel
theorem dX12_goSecond_73 : decode cX12_goSecond 73 = .ok (.invokevirtual 273, 3) := by decide +kernel
theorem dX12_goSecond_76 : decode cX12_goSecond 76 = .ok (.ifCond .eq 37, 3) := by decide +kernel
theorem dX12_goSecond_79 : decode cX12_goSecond 79 = .ok (.aload_n 0, 1) := by decide +kernel
theorem dX12_goSecond_80 : decode cX12_goSecond 80 = .ok (.getfield 252, 3) := by decide +kernel
theorem dX12_goSecond_83 : decode cX12_goSecond 83 = .ok (.iconst 1, 1) := by decide +kernel
theorem dX12_goSecond_84 : decode cX12_goSecond 84 = .ok (.if_icmp .lt 29, 3) := by decide +kernel
theorem dX12_goSecond_87 : decode cX12_goSecond 87 = .ok (.aload_n 0, 1) := by decide +kernel
theorem dX12_goSecond_88 : decode cX12_goSecond 88 = .ok (.iload_n 3, 1) := by decide +kernel
theorem dX12_goSecond_89 : decode cX12_goSecond 89 = .ok (.invokevirtual 276, 3) := by decide +kernel
theorem dX12_goSecond_92 : decode cX12_goSecond 92 = .ok (.aload_n 0, 1) := by decide +kernel
theorem dX12_goSecond_93 : decode cX12_goSecond 93 = .ok (.getfield 22, 3) := by decide +kernel
theorem dX12_goSecond_96 : decode cX12_goSecond 96 = .ok (.iconst 1, 1) := by decide +kernel
theorem dX12_goSecond_97 : decode cX12_goSecond 97 = .ok (.iaload, 1) := by decide +kernel
theorem dX12_goSecond_98 : decode cX12_goSecond 98 = .ok (.if_icmp .gt 15, 3) := by decide +kernel
theorem dX12_goSecond_101 : decode cX12_goSecond 101 = .ok (.aload_n 0, 1) := by decide +kernel
theorem dX12_goSecond_102 : decode cX12_goSecond 102 = .ok (.dup, 1) := by decide +kernel
theorem dX12_goSecond_103 : decode cX12_goSecond 103 = .ok (.getfield 261, 3) := by decide +kernel
theorem dX12_goSecond_106 : decode cX12_goSecond 106 = .ok (.iconst 1, 1) := by decide +kernel
theorem dX12_goSecond_107 : decode cX12_goSecond 107 = .ok (.iload_n 3, 1) := by decide +kernel
theorem dX12_goSecond_108 : decode cX12_goSecond 108 = .ok (.ishl, 1) := by decide +kernel
theorem dX12_goSecond_109 : decode cX12_goSecond 109 = .ok (.ior, 1) := by decide +kernel
theorem dX12_goSecond_110 : decode cX12_goSecond 110 = .ok (.putfield 261, 3) := by decide +kernel
theorem dX12_goSecond_113 : decode cX12_goSecond 113 = .ok (.iinc 3 1, 3) := by decide +kernel
theorem dX12_goSecond_116 : decode cX12_goSecond 116 = .ok (.goto (-53), 3) := by decide +kernel
theorem dX12_goSecond_119 : decode cX12_goSecond 119 = .ok (.iconst 0, 1) := by decide +kernel
theorem dX12_goSecond_120 : decode cX12_goSecond 120 = .ok (.istore_n 3, 1) := by decide +kernel
theorem dX12_goSecond_121 : decode cX12_goSecond 121 = .ok (.iload_n 3, 1) := by decide +kernel
theorem dX12_goSecond_122 : decode cX12_goSecond 122 = .ok (.aload_n 0, 1) := by decide +kernel
theorem dX12_goSecond_123 : decode cX12_goSecond 123 = .ok (.getfield 125, 3) := by decide +kernel
theorem dX12_goSecond_126 : decode cX12_goSecond 126 = .ok (.if_icmp .ge 22, 3) := by decide +kernel
theorem dX12_goSecond_129 : decode cX12_goSecond 129 = .ok (.aload_n 0, 1) := by decide +kernel
theorem dX12_goSecond_130 : decode cX12_goSecond 130 = .ok (.iload_n 3, 1) := by decide +kernel
theorem dX12_goSecond_131 : decode cX12_goSecond 131 = .ok (.invokevirtual 273, 3) := by decide +kernel
theorem dX12_goSecond_134 : decode cX12_goSecond 134 = .ok (.ifCond .eq 8, 3) := by decide +kernel
theorem dX12_goSecond_137 : decode cX12_goSecond 137 = .ok (.aload_n 0, 1) := by decide +kernel
theorem dX12_goSecond_138 : decode cX12_goSecond 138 = .ok (.iload_n 3, 1) := by decide +kernel
theorem dX12_goSecond_139 : decode cX12_goSecond 139 = .ok (.invokevirtual 301, 3) := by decide +kernel
theorem dX12_goSecond_142 : decode cX12_goSecond 142 = .ok (.iinc 3 1, 3) := by decide +kernel
theorem dX12_goSecond_145 : decode cX12_goSecond 145 = .ok (.goto (-24), 3) := by decide +kernel
theorem dX12_goSecond_148 : decode cX12_goSecond 148 = .ok (.aload_n 0, 1) := by decide +kernel
theorem dX12_goSecond_149 : decode cX12_goSecond 149 = .ok (.dup, 1) := by decide +kernel
theorem dX12_goSecond_150 : decode cX12_goSecond 150 = .ok (.getfield 255, 3) := by decide +kernel
theorem dX12_goSecond_153 : decode cX12_goSecond 153 = .ok (.iconst 1, 1) := by decide +kernel
theorem dX12_goSecond_154 : decode cX12_goSecond 154 = .ok (.iadd, 1) := by decide +kernel
theorem dX12_goSecond_155 : decode cX12_goSecond 155 = .ok (.putfield 255, 3) := by decide +kernel
theorem dX12_goSecond_158 : decode cX12_goSecond 158 = .ok (.aload_n 0, 1) := by decide +kernel
theorem dX12_goSecond_159 : decode cX12_goSecond 159 = .ok (.invokevirtual 304, 3) := by decide +kernel
theorem dX12_goSecond_162 : decode cX12_goSecond 162 = .ok (.aload_n 0, 1) := by decide +kernel
theorem dX12_goSecond_163 : decode cX12_goSecond 163 = .ok (.getfield 22, 3) := by decide +kernel
theorem dX12_goSecond_166 : decode cX12_goSecond 166 = .ok (.iconst 2, 1) := by decide +kernel
theorem dX12_goSecond_167 : decode cX12_goSecond 167 = .ok (.iaload, 1) := by decide +kernel
theorem dX12_goSecond_168 : decode cX12_goSecond 168 = .ok (.if_icmp .le 11, 3) := by decide +kernel
theorem dX12_goSecond_171 : decode cX12_goSecond 171 = .ok (.aload_n 0, 1) := by decide +kernel
theorem dX12_goSecond_172 : decode cX12_goSecond 172 = .ok (.iconst 2, 1) := by decide +kernel
theorem dX12_goSecond_173 : decode cX12_goSecond 173 = .ok (.putfield 258, 3) := by decide +kernel
theorem dX12_goSecond_176 : decode cX12_goSecond 176 = .ok (.goto 21, 3) := by decide +kernel
theorem dX12_goSecond_179 : decode cX12_goSecond 179 = .ok (.aload_n 0, 1) := by decide +kernel
theorem dX12_goSecond_180 : decode cX12_goSecond 180 = .ok (.getfield 255, 3) := by decide +kernel
theorem dX12_goSecond_183 : decode cX12_goSecond 183 = .ok (.aload_n 0, 1) := by decide +kernel
theorem dX12_goSecond_184 : decode cX12_goSecond 184 = .ok (.getfield 22, 3) := by decide +kernel
theorem dX12_goSecond_187 : decode cX12_goSecond 187 = .ok (.iconst 0, 1) := by decide +kernel
theorem dX12_goSecond_188 : decode cX12_goSecond 188 = .ok (.iaload, 1) := by decide +kernel
theorem dX12_goSecond_189 : decode cX12_goSecond 189 = .ok (.if_icmp .ne 8, 3) := by decide +kernel
theorem dX12_goSecond_192 : decode cX12_goSecond 192 = .ok (.aload_n 0, 1) := by decide +kernel
theorem dX12_goSecond_193 : decode cX12_goSecond 193 = .ok (.iconst 3, 1) := by decide +kernel
theorem dX12_goSecond_194 : decode cX12_goSecond 194 = .ok (.putfield 258, 3) := by decide +kernel
theorem dX12_goSecond_197 : decode cX12_goSecond 197 = .ok (.return_, 1) := by decide +kernel
theorem dX12_rowFault_0 : decode cX12_rowFault 0 = .ok (.aload_n 0, 1) := by decide +kernel
theorem dX12_rowFault_1 : decode cX12_rowFault 1 = .ok (.getfield 108, 3) := by decide +kernel
theorem dX12_rowFault_4 : decode cX12_rowFault 4 = .ok (.iload_n 1, 1) := by decide +kernel
theorem dX12_rowFault_5 : decode cX12_rowFault 5 = .ok (.iaload, 1) := by decide +kernel
theorem dX12_rowFault_6 : decode cX12_rowFault 6 = .ok (.iconst (-1), 1) := by decide +kernel
theorem dX12_rowFault_7 : decode cX12_rowFault 7 = .ok (.if_icmp .ne 8, 3) := by decide +kernel
theorem dX12_rowFault_10 : decode cX12_rowFault 10 = .ok (.bipush (-11), 2) := by decide +kernel
theorem dX12_rowFault_12 : decode cX12_rowFault 12 = .ok (.goto 20, 3) := by decide +kernel
theorem dX12_rowFault_15 : decode cX12_rowFault 15 = .ok (.aload_n 0, 1) := by decide +kernel
theorem dX12_rowFault_16 : decode cX12_rowFault 16 = .ok (.getfield 108, 3) := by decide +kernel
theorem dX12_rowFault_19 : decode cX12_rowFault 19 = .ok (.iload_n 1, 1) := by decide +kernel
theorem dX12_rowFault_20 : decode cX12_rowFault 20 = .ok (.iaload, 1) := by decide +kernel
theorem dX12_rowFault_21 : decode cX12_rowFault 21 = .ok (.bipush (-2), 2) := by decide +kernel
theorem dX12_rowFault_23 : decode cX12_rowFault 23 = .ok (.if_icmp .ne 7, 3) := by decide +kernel
theorem dX12_rowFault_26 : decode cX12_rowFault 26 = .ok (.iconst 0, 1) := by decide +kernel
theorem dX12_rowFault_27 : decode cX12_rowFault 27 = .ok (.goto 5, 3) := by decide +kernel
theorem dX12_rowFault_30 : decode cX12_rowFault 30 = .ok (.bipush (-12), 2) := by decide +kernel
theorem dX12_rowFault_32 : decode cX12_rowFault 32 = .ok (.ireturn, 1) := by decide +kernel
theorem dX12_at_0 : decode cX12_at 0 = .ok (.aload_n 0, 1) := by decide +kernel
theorem dX12_at_1 : decode cX12_at 1 = .ok (.getfield 114, 3) := by decide +kernel
theorem dX12_at_4 : decode cX12_at 4 = .ok (.bipush 60, 2) := by decide +kernel
theorem dX12_at_6 : decode cX12_at 6 = .ok (.iload_n 1, 1) := by decide +kernel
theorem dX12_at_7 : decode cX12_at 7 = .ok (.imul, 1) := by decide +kernel
theorem dX12_at_8 : decode cX12_at 8 = .ok (.iload_n 2, 1) := by decide +kernel
theorem dX12_at_9 : decode cX12_at 9 = .ok (.iadd, 1) := by decide +kernel
theorem dX12_at_10 : decode cX12_at 10 = .ok (.laload, 1) := by decide +kernel
theorem dX12_at_11 : decode cX12_at 11 = .ok (.l2i, 1) := by decide +kernel
theorem dX12_at_12 : decode cX12_at 12 = .ok (.ireturn, 1) := by decide +kernel
theorem dX12_moveAt_0 : decode cX12_moveAt 0 = .ok (.iload_n 2, 1) := by decide +kernel
theorem dX12_moveAt_1 : decode cX12_moveAt 1 = .ok (.aload_n 0, 1) := by decide +kernel
theorem dX12_moveAt_2 : decode cX12_moveAt 2 = .ok (.getfield 111, 3) := by decide +kernel
theorem dX12_moveAt_5 : decode cX12_moveAt 5 = .ok (.iload_n 1, 1) := by decide +kernel
theorem dX12_moveAt_6 : decode cX12_moveAt 6 = .ok (.iaload, 1) := by decide +kernel
theorem dX12_moveAt_7 : decode cX12_moveAt 7 = .ok (.if_icmp .ge 26, 3) := by decide +kernel
theorem dX12_moveAt_10 : decode cX12_moveAt 10 = .ok (.aload_n 0, 1) := by decide +kernel
theorem dX12_moveAt_11 : decode cX12_moveAt 11 = .ok (.iload_n 1, 1) := by decide +kernel
theorem dX12_moveAt_12 : decode cX12_moveAt 12 = .ok (.iload_n 2, 1) := by decide +kernel
theorem dX12_moveAt_13 : decode cX12_moveAt 13 = .ok (.invokevirtual 307, 3) := by decide +kernel
theorem dX12_moveAt_16 : decode cX12_moveAt 16 = .ok (.iconst 0, 1) := by decide +kernel
theorem dX12_moveAt_17 : decode cX12_moveAt 17 = .ok (.iconst 4, 1) := by decide +kernel
theorem dX12_moveAt_18 : decode cX12_moveAt 18 = .ok (.invokestatic 128, 3) := by decide +kernel
theorem dX12_moveAt_21 : decode cX12_moveAt 21 = .ok (.ifCond .eq 12, 3) := by decide +kernel
theorem dX12_moveAt_24 : decode cX12_moveAt 24 = .ok (.aload_n 0, 1) := by decide +kernel
theorem dX12_moveAt_25 : decode cX12_moveAt 25 = .ok (.iload_n 1, 1) := by decide +kernel
theorem dX12_moveAt_26 : decode cX12_moveAt 26 = .ok (.iload_n 2, 1) := by decide +kernel
theorem dX12_moveAt_27 : decode cX12_moveAt 27 = .ok (.invokevirtual 307, 3) := by decide +kernel
theorem dX12_moveAt_30 : decode cX12_moveAt 30 = .ok (.goto 4, 3) := by decide +kernel
theorem dX12_moveAt_33 : decode cX12_moveAt 33 = .ok (.iconst 0, 1) := by decide +kernel
theorem dX12_moveAt_34 : decode cX12_moveAt 34 = .ok (.ireturn, 1) := by decide +kernel
theorem dX12_goRaid_0 : decode cX12_goRaid 0 = .ok (.aload_n 0, 1) := by decide +kernel
theorem dX12_goRaid_1 : decode cX12_goRaid 1 = .ok (.invokevirtual 288, 3) := by decide +kernel
theorem dX12_goRaid_4 : decode cX12_goRaid 4 = .ok (.aload_n 0, 1) := by decide +kernel
theorem dX12_goRaid_5 : decode cX12_goRaid 5 = .ok (.getfield 258, 3) := by decide +kernel
theorem dX12_goRaid_8 : decode cX12_goRaid 8 = .ok (.ifCond .ne 27, 3) := by decide +kernel
theorem dX12_goRaid_11 : decode cX12_goRaid 11 = .ok (.aload_n 0, 1) := by decide +kernel
theorem dX12_goRaid_12 : decode cX12_goRaid 12 = .ok (.getfield 255, 3) := by decide +kernel
theorem dX12_goRaid_15 : decode cX12_goRaid 15 = .ok (.iload_n 2, 1) := by decide +kernel
theorem dX12_goRaid_16 : decode cX12_goRaid 16 = .ok (.if_icmp .ge 19, 3) := by decide +kernel
theorem dX12_goRaid_19 : decode cX12_goRaid 19 = .ok (.aload_n 0, 1) := by decide +kernel
theorem dX12_goRaid_20 : decode cX12_goRaid 20 = .ok (.aload_n 0, 1) := by decide +kernel
theorem dX12_goRaid_21 : decode cX12_goRaid 21 = .ok (.iload_n 1, 1) := by decide +kernel
theorem dX12_goRaid_22 : decode cX12_goRaid 22 = .ok (.aload_n 0, 1) := by decide +kernel
theorem dX12_goRaid_23 : decode cX12_goRaid 23 = .ok (.getfield 255, 3) := by decide +kernel
theorem dX12_goRaid_26 : decode cX12_goRaid 26 = .ok (.invokevirtual 310, 3) := by decide +kernel
theorem dX12_goRaid_29 : decode cX12_goRaid 29 = .ok (.invokevirtual 313, 3) := by decide +kernel
theorem dX12_goRaid_32 : decode cX12_goRaid 32 = .ok (.goto (-28), 3) := by decide +kernel
theorem dX12_goRaid_35 : decode cX12_goRaid 35 = .ok (.return_, 1) := by decide +kernel
theorem dX12_pointsNow_0 : decode cX12_pointsNow 0 = .ok (.aload_n 0, 1) := by decide +kernel
theorem dX12_pointsNow_1 : decode cX12_pointsNow 1 = .ok (.getfield 258, 3) := by decide +kernel
theorem dX12_pointsNow_4 : decode cX12_pointsNow 4 = .ok (.iconst 1, 1) := by decide +kernel
theorem dX12_pointsNow_5 : decode cX12_pointsNow 5 = .ok (.if_icmp .ne 13, 3) := by decide +kernel
theorem dX12_pointsNow_8 : decode cX12_pointsNow 8 = .ok (.aload_n 0, 1) := by decide +kernel
theorem dX12_pointsNow_9 : decode cX12_pointsNow 9 = .ok (.getfield 261, 3) := by decide +kernel
theorem dX12_pointsNow_12 : decode cX12_pointsNow 12 = .ok (.invokestatic 279, 3) := by decide +kernel
theorem dX12_pointsNow_15 : decode cX12_pointsNow 15 = .ok (.goto 4, 3) := by decide +kernel
theorem dX12_pointsNow_18 : decode cX12_pointsNow 18 = .ok (.iconst 0, 1) := by decide +kernel
theorem dX12_pointsNow_19 : decode cX12_pointsNow 19 = .ok (.ireturn, 1) := by decide +kernel
theorem dX12_theirsNow_0 : decode cX12_theirsNow 0 = .ok (.aload_n 0, 1) := by decide +kernel
theorem dX12_theirsNow_1 : decode cX12_theirsNow 1 = .ok (.getfield 258, 3) := by decide +kernel
theorem dX12_theirsNow_4 : decode cX12_theirsNow 4 = .ok (.iconst 1, 1) := by decide +kernel
theorem dX12_theirsNow_5 : decode cX12_theirsNow 5 = .ok (.if_icmp .ne 29, 3) := by decide +kernel
theorem dX12_theirsNow_8 : decode cX12_theirsNow 8 = .ok (.aload_n 0, 1) := by decide +kernel
theorem dX12_theirsNow_9 : decode cX12_theirsNow 9 = .ok (.getfield 261, 3) := by decide +kernel
theorem dX12_theirsNow_12 : decode cX12_theirsNow 12 = .ok (.ifCond .ne 20, 3) := by decide +kernel
theorem dX12_theirsNow_15 : decode cX12_theirsNow 15 = .ok (.aload_n 0, 1) := by decide +kernel
theorem dX12_theirsNow_16 : decode cX12_theirsNow 16 = .ok (.getfield 264, 3) := by decide +kernel
theorem dX12_theirsNow_19 : decode cX12_theirsNow 19 = .ok (.aload_n 0, 1) := by decide +kernel
theorem dX12_theirsNow_20 : decode cX12_theirsNow 20 = .ok (.getfield 22, 3) := by decide +kernel
theorem dX12_theirsNow_23 : decode cX12_theirsNow 23 = .ok (.iconst 4, 1) := by decide +kernel
theorem dX12_theirsNow_24 : decode cX12_theirsNow 24 = .ok (.iaload, 1) := by decide +kernel
theorem dX12_theirsNow_25 : decode cX12_theirsNow 25 = .ok (.if_icmp .ge 7, 3) := by decide +kernel
theorem dX12_theirsNow_28 : decode cX12_theirsNow 28 = .ok (.iconst 1, 1) := by decide +kernel
theorem dX12_theirsNow_29 : decode cX12_theirsNow 29 = .ok (.goto 4, 3) := by decide +kernel
theorem dX12_theirsNow_32 : decode cX12_theirsNow 32 = .ok (.iconst 0, 1) := by decide +kernel
theorem dX12_theirsNow_33 : decode cX12_theirsNow 33 = .ok (.ireturn, 1) := by decide +kernel
theorem dX12_theirsNow_34 : decode cX12_theirsNow 34 = .ok (.aload_n 0, 1) := by decide +kernel
theorem dX12_theirsNow_35 : decode cX12_theirsNow 35 = .ok (.getfield 246, 3) := by decide +kernel
theorem dX12_theirsNow_38 : decode cX12_theirsNow 38 = .ok (.invokestatic 279, 3) := by decide +kernel
theorem dX12_theirsNow_41 : decode cX12_theirsNow 41 = .ok (.iconst 3, 1) := by decide +kernel
theorem dX12_theirsNow_42 : decode cX12_theirsNow 42 = .ok (.if_icmp .gt 7, 3) := by decide +kernel
theorem dX12_theirsNow_45 : decode cX12_theirsNow 45 = .ok (.iconst 2, 1) := by decide +kernel
theorem dX12_theirsNow_46 : decode cX12_theirsNow 46 = .ok (.goto 4, 3) := by decide +kernel
theorem dX12_theirsNow_49 : decode cX12_theirsNow 49 = .ok (.iconst 1, 1) := by decide +kernel
theorem dX12_theirsNow_50 : decode cX12_theirsNow 50 = .ok (.ireturn, 1) := by decide +kernel
theorem dX12_raid_0 : decode cX12_raid 0 = .ok (.iload_n 1, 1) := by decide +kernel
theorem dX12_raid_1 : decode cX12_raid 1 = .ok (.invokestatic 143, 3) := by decide +kernel
theorem dX12_raid_4 : decode cX12_raid 4 = .ok (.ifCond .eq 13, 3) := by decide +kernel
theorem dX12_raid_7 : decode cX12_raid 7 = .ok (.iload_n 2, 1) := by decide +kernel
theorem dX12_raid_8 : decode cX12_raid 8 = .ok (.iconst 0, 1) := by decide +kernel
theorem dX12_raid_9 : decode cX12_raid 9 = .ok (.bipush 6, 2) := by decide +kernel
theorem dX12_raid_11 : decode cX12_raid 11 = .ok (.invokestatic 128, 3) := by decide +kernel
theorem dX12_raid_14 : decode cX12_raid 14 = .ok (.ifCond .ne 5, 3) := by decide +kernel
theorem dX12_raid_17 : decode cX12_raid 17 = .ok (.iconst (-1), 1) := by decide +kernel
theorem dX12_raid_18 : decode cX12_raid 18 = .ok (.ireturn, 1) := by decide +kernel
theorem dX12_raid_19 : decode cX12_raid 19 = .ok (.aload_n 0, 1) := by decide +kernel
theorem dX12_raid_20 : decode cX12_raid 20 = .ok (.iload_n 1, 1) := by decide +kernel
theorem dX12_raid_21 : decode cX12_raid 21 = .ok (.invokevirtual 316, 3) := by decide +kernel
theorem dX12_raid_24 : decode cX12_raid 24 = .ok (.ifCond .ge 9, 3) := by decide +kernel
theorem dX12_raid_27 : decode cX12_raid 27 = .ok (.aload_n 0, 1) := by decide +kernel
theorem dX12_raid_28 : decode cX12_raid 28 = .ok (.iload_n 1, 1) := by decide +kernel
theorem dX12_raid_29 : decode cX12_raid 29 = .ok (.invokevirtual 316, 3) := by decide +kernel
theorem dX12_raid_32 : decode cX12_raid 32 = .ok (.ireturn, 1) := by decide +kernel
theorem dX12_raid_33 : decode cX12_raid 33 = .ok (.aload_n 0, 1) := by decide +kernel
theorem dX12_raid_34 : decode cX12_raid 34 = .ok (.iload_n 1, 1) := by decide +kernel
theorem dX12_raid_35 : decode cX12_raid 35 = .ok (.bipush 60, 2) := by decide +kernel
theorem dX12_raid_37 : decode cX12_raid 37 = .ok (.invokevirtual 319, 3) := by decide +kernel
theorem dX12_raid_40 : decode cX12_raid 40 = .ok (.iload_n 2, 1) := by decide +kernel
theorem dX12_raid_41 : decode cX12_raid 41 = .ok (.tableswitch 69 0 5 #[39, 44, 49, 54, 59, 64], 39) := by decide +kernel
theorem dX12_raid_80 : decode cX12_raid 80 = .ok (.aload_n 0, 1) := by decide +kernel
theorem dX12_raid_81 : decode cX12_raid 81 = .ok (.getfield 258, 3) := by decide +kernel
theorem dX12_raid_84 : decode cX12_raid 84 = .ok (.ireturn, 1) := by decide +kernel
theorem dX12_raid_85 : decode cX12_raid 85 = .ok (.aload_n 0, 1) := by decide +kernel
theorem dX12_raid_86 : decode cX12_raid 86 = .ok (.getfield 255, 3) := by decide +kernel
theorem dX12_raid_89 : decode cX12_raid 89 = .ok (.ireturn, 1) := by decide +kernel
theorem dX12_raid_90 : decode cX12_raid 90 = .ok (.aload_n 0, 1) := by decide +kernel
theorem dX12_raid_91 : decode cX12_raid 91 = .ok (.invokevirtual 322, 3) := by decide +kernel
theorem dX12_raid_94 : decode cX12_raid 94 = .ok (.ireturn, 1) := by decide +kernel
theorem dX12_raid_95 : decode cX12_raid 95 = .ok (.aload_n 0, 1) := by decide +kernel
theorem dX12_raid_96 : decode cX12_raid 96 = .ok (.invokevirtual 325, 3) := by decide +kernel
theorem dX12_raid_99 : decode cX12_raid 99 = .ok (.ireturn, 1) := by decide +kernel
theorem dX12_raid_100 : decode cX12_raid 100 = .ok (.aload_n 0, 1) := by decide +kernel
theorem dX12_raid_101 : decode cX12_raid 101 = .ok (.getfield 261, 3) := by decide +kernel
theorem dX12_raid_104 : decode cX12_raid 104 = .ok (.ireturn, 1) := by decide +kernel
theorem dX12_raid_105 : decode cX12_raid 105 = .ok (.aload_n 0, 1) := by decide +kernel
theorem dX12_raid_106 : decode cX12_raid 106 = .ok (.getfield 264, 3) := by decide +kernel
theorem dX12_raid_109 : decode cX12_raid 109 = .ok (.ireturn, 1) := by decide +kernel
theorem dX12_raid_110 : decode cX12_raid 110 = .ok (.aload_n 0, 1) := by decide +kernel
theorem dX12_raid_111 : decode cX12_raid 111 = .ok (.getfield 267, 3) := by decide +kernel
theorem dX12_raid_114 : decode cX12_raid 114 = .ok (.ireturn, 1) := by decide +kernel
theorem dX12_where_0 : decode cX12_where 0 = .ok (.iload_n 1, 1) := by decide +kernel
theorem dX12_where_1 : decode cX12_where 1 = .ok (.invokestatic 143, 3) := by decide +kernel
theorem dX12_where_4 : decode cX12_where 4 = .ok (.ifCond .eq 27, 3) := by decide +kernel
theorem dX12_where_7 : decode cX12_where 7 = .ok (.iload_n 2, 1) := by decide +kernel
theorem dX12_where_8 : decode cX12_where 8 = .ok (.iconst 0, 1) := by decide +kernel
theorem dX12_where_9 : decode cX12_where 9 = .ok (.bipush 60, 2) := by decide +kernel
theorem dX12_where_11 : decode cX12_where 11 = .ok (.invokestatic 128, 3) := by decide +kernel
theorem dX12_where_14 : decode cX12_where 14 = .ok (.ifCond .eq 17, 3) := by decide +kernel
theorem dX12_where_17 : decode cX12_where 17 = .ok (.iload_n 3, 1) := by decide +kernel
theorem dX12_where_18 : decode cX12_where 18 = .ok (.iconst (-1), 1) := by decide +kernel
theorem dX12_where_19 : decode cX12_where 19 = .ok (.aload_n 0, 1) := by decide +kernel
theorem dX12_where_20 : decode cX12_where 20 = .ok (.getfield 125, 3) := by decide +kernel
theorem dX12_where_23 : decode cX12_where 23 = .ok (.iconst 1, 1) := by decide +kernel
theorem dX12_where_24 : decode cX12_where 24 = .ok (.isub, 1) := by decide +kernel
theorem dX12_where_25 : decode cX12_where 25 = .ok (.invokestatic 128, 3) := by decide +kernel
theorem dX12_where_28 : decode cX12_where 28 = .ok (.ifCond .ne 5, 3) := by decide +kernel
theorem dX12_where_31 : decode cX12_where 31 = .ok (.iconst (-1), 1) := by decide +kernel
theorem dX12_where_32 : decode cX12_where 32 = .ok (.ireturn, 1) := by decide +kernel
theorem dX12_where_33 : decode cX12_where 33 = .ok (.aload_n 0, 1) := by decide +kernel
theorem dX12_where_34 : decode cX12_where 34 = .ok (.iload_n 1, 1) := by decide +kernel
theorem dX12_where_35 : decode cX12_where 35 = .ok (.invokevirtual 316, 3) := by decide +kernel
theorem dX12_where_38 : decode cX12_where 38 = .ok (.ifCond .ge 9, 3) := by decide +kernel
theorem dX12_where_41 : decode cX12_where 41 = .ok (.aload_n 0, 1) := by decide +kernel
theorem dX12_where_42 : decode cX12_where 42 = .ok (.iload_n 1, 1) := by decide +kernel
theorem dX12_where_43 : decode cX12_where 43 = .ok (.invokevirtual 316, 3) := by decide +kernel
theorem dX12_where_46 : decode cX12_where 46 = .ok (.ireturn, 1) := by decide +kernel
theorem dX12_where_47 : decode cX12_where 47 = .ok (.aload_n 0, 1) := by decide +kernel
theorem dX12_where_48 : decode cX12_where 48 = .ok (.iload_n 1, 1) := by decide +kernel
theorem dX12_where_49 : decode cX12_where 49 = .ok (.iload_n 2, 1) := by decide +kernel
theorem dX12_where_50 : decode cX12_where 50 = .ok (.invokevirtual 319, 3) := by decide +kernel
theorem dX12_where_53 : decode cX12_where 53 = .ok (.iload_n 3, 1) := by decide +kernel
theorem dX12_where_54 : decode cX12_where 54 = .ok (.ifCond .ge 18, 3) := by decide +kernel
theorem dX12_where_57 : decode cX12_where 57 = .ok (.bipush 10, 2) := by decide +kernel
theorem dX12_where_59 : decode cX12_where 59 = .ok (.aload_n 0, 1) := by decide +kernel
theorem dX12_where_60 : decode cX12_where 60 = .ok (.getfield 252, 3) := by decide +kernel
theorem dX12_where_63 : decode cX12_where 63 = .ok (.imul, 1) := by decide +kernel
theorem dX12_where_64 : decode cX12_where 64 = .ok (.aload_n 0, 1) := by decide +kernel
theorem dX12_where_65 : decode cX12_where 65 = .ok (.getfield 249, 3) := by decide +kernel
theorem dX12_where_68 : decode cX12_where 68 = .ok (.iadd, 1) := by decide +kernel
theorem dX12_where_69 : decode cX12_where 69 = .ok (.goto 19, 3) := by decide +kernel
theorem dX12_where_72 : decode cX12_where 72 = .ok (.bipush 10, 2) := by decide +kernel
theorem dX12_where_74 : decode cX12_where 74 = .ok (.aload_n 0, 1) := by decide +kernel
theorem dX12_where_75 : decode cX12_where 75 = .ok (.getfield 66, 3) := by decide +kernel
theorem dX12_where_78 : decode cX12_where 78 = .ok (.iload_n 3, 1) := by decide +kernel
theorem dX12_where_79 : decode cX12_where 79 = .ok (.iaload, 1) := by decide +kernel
theorem dX12_where_80 : decode cX12_where 80 = .ok (.imul, 1) := by decide +kernel
theorem dX12_where_81 : decode cX12_where 81 = .ok (.aload_n 0, 1) := by decide +kernel
theorem dX12_where_82 : decode cX12_where 82 = .ok (.getfield 63, 3) := by decide +kernel
theorem dX12_where_85 : decode cX12_where 85 = .ok (.iload_n 3, 1) := by decide +kernel
theorem dX12_where_86 : decode cX12_where 86 = .ok (.iaload, 1) := by decide +kernel
theorem dX12_where_87 : decode cX12_where 87 = .ok (.iadd, 1) := by decide +kernel
theorem dX12_where_88 : decode cX12_where 88 = .ok (.ireturn, 1) := by decide +kernel
theorem dX12_goMoves_0 : decode cX12_goMoves 0 = .ok (.aload_n 0, 1) := by decide +kernel
theorem dX12_goMoves_1 : decode cX12_goMoves 1 = .ok (.invokevirtual 288, 3) := by decide +kernel
theorem dX12_goMoves_4 : decode cX12_goMoves 4 = .ok (.aload_n 0, 1) := by decide +kernel
theorem dX12_goMoves_5 : decode cX12_goMoves 5 = .ok (.getfield 258, 3) := by decide +kernel
theorem dX12_goMoves_8 : decode cX12_goMoves 8 = .ok (.ifCond .ne 31, 3) := by decide +kernel
theorem dX12_goMoves_11 : decode cX12_goMoves 11 = .ok (.aload_n 0, 1) := by decide +kernel
theorem dX12_goMoves_12 : decode cX12_goMoves 12 = .ok (.aload_n 0, 1) := by decide +kernel
theorem dX12_goMoves_13 : decode cX12_goMoves 13 = .ok (.getfield 255, 3) := by decide +kernel
theorem dX12_goMoves_16 : decode cX12_goMoves 16 = .ok (.iload_n 1, 1) := by decide +kernel
theorem dX12_goMoves_17 : decode cX12_goMoves 17 = .ok (.if_icmp .ge 15, 3) := by decide +kernel
theorem dX12_goMoves_20 : decode cX12_goMoves 20 = .ok (.aload_n 0, 1) := by decide +kernel
theorem dX12_goMoves_21 : decode cX12_goMoves 21 = .ok (.getfield 69, 3) := by decide +kernel
theorem dX12_goMoves_24 : decode cX12_goMoves 24 = .ok (.aload_n 0, 1) := by decide +kernel
theorem dX12_goMoves_25 : decode cX12_goMoves 25 = .ok (.getfield 255, 3) := by decide +kernel
theorem dX12_goMoves_28 : decode cX12_goMoves 28 = .ok (.iaload, 1) := by decide +kernel
theorem dX12_goMoves_29 : decode cX12_goMoves 29 = .ok (.goto 4, 3) := by decide +kernel
theorem dX12_goMoves_32 : decode cX12_goMoves 32 = .ok (.iconst 2, 1) := by decide +kernel
theorem dX12_goMoves_33 : decode cX12_goMoves 33 = .ok (.invokevirtual 313, 3) := by decide +kernel
theorem dX12_goMoves_36 : decode cX12_goMoves 36 = .ok (.goto (-32), 3) := by decide +kernel
theorem dX12_goMoves_39 : decode cX12_goMoves 39 = .ok (.return_, 1) := by decide +kernel
theorem dX12_layMoves_0 : decode cX12_layMoves 0 = .ok (.iload_n 2, 1) := by decide +kernel
theorem dX12_layMoves_1 : decode cX12_layMoves 1 = .ok (.istore_n 3, 1) := by decide +kernel
theorem dX12_layMoves_2 : decode cX12_layMoves 2 = .ok (.iload_n 1, 1) := by decide +kernel
theorem dX12_layMoves_3 : decode cX12_layMoves 3 = .ok (.iconst 1, 1) := by decide +kernel
theorem dX12_layMoves_4 : decode cX12_layMoves 4 = .ok (.isub, 1) := by decide +kernel
theorem dX12_layMoves_5 : decode cX12_layMoves 5 = .ok (.istore 4, 2) := by decide +kernel
theorem dX12_layMoves_7 : decode cX12_layMoves 7 = .ok (.iload 4, 2) := by decide +kernel
theorem dX12_layMoves_9 : decode cX12_layMoves 9 = .ok (.ifCond .lt 23, 3) := by decide +kernel
theorem dX12_layMoves_12 : decode cX12_layMoves 12 = .ok (.aload_n 0, 1) := by decide +kernel
theorem dX12_layMoves_13 : decode cX12_layMoves 13 = .ok (.getfield 69, 3) := by decide +kernel
theorem dX12_layMoves_16 : decode cX12_layMoves 16 = .ok (.iload 4, 2) := by decide +kernel
theorem dX12_layMoves_18 : decode cX12_layMoves 18 = .ok (.iload_n 3, 1) := by decide +kernel
theorem dX12_layMoves_19 : decode cX12_layMoves 19 = .ok (.iconst 5, 1) := by decide +kernel
theorem dX12_layMoves_20 : decode cX12_layMoves 20 = .ok (.irem, 1) := by decide +kernel
theorem dX12_layMoves_21 : decode cX12_layMoves 21 = .ok (.iastore, 1) := by decide +kernel
theorem dX12_layMoves_22 : decode cX12_layMoves 22 = .ok (.iload_n 3, 1) := by decide +kernel
theorem dX12_layMoves_23 : decode cX12_layMoves 23 = .ok (.iconst 5, 1) := by decide +kernel
theorem dX12_layMoves_24 : decode cX12_layMoves 24 = .ok (.idiv, 1) := by decide +kernel
theorem dX12_layMoves_25 : decode cX12_layMoves 25 = .ok (.istore_n 3, 1) := by decide +kernel
theorem dX12_layMoves_26 : decode cX12_layMoves 26 = .ok (.iinc 4 (-1), 3) := by decide +kernel
theorem dX12_layMoves_29 : decode cX12_layMoves 29 = .ok (.goto (-22), 3) := by decide +kernel
theorem dX12_layMoves_32 : decode cX12_layMoves 32 = .ok (.return_, 1) := by decide +kernel
theorem dX12_allMoves_0 : decode cX12_allMoves 0 = .ok (.iconst 1, 1) := by decide +kernel
theorem dX12_allMoves_1 : decode cX12_allMoves 1 = .ok (.istore_n 1, 1) := by decide +kernel
theorem dX12_allMoves_2 : decode cX12_allMoves 2 = .ok (.iconst 0, 1) := by decide +kernel
theorem dX12_allMoves_3 : decode cX12_allMoves 3 = .ok (.istore_n 2, 1) := by decide +kernel
theorem dX12_allMoves_4 : decode cX12_allMoves 4 = .ok (.iload_n 2, 1) := by decide +kernel
theorem dX12_allMoves_5 : decode cX12_allMoves 5 = .ok (.iload_n 0, 1) := by decide +kernel
theorem dX12_allMoves_6 : decode cX12_allMoves 6 = .ok (.if_icmp .ge 13, 3) := by decide +kernel
theorem dX12_allMoves_9 : decode cX12_allMoves 9 = .ok (.iload_n 1, 1) := by decide +kernel
theorem dX12_allMoves_10 : decode cX12_allMoves 10 = .ok (.iconst 5, 1) := by decide +kernel
theorem dX12_allMoves_11 : decode cX12_allMoves 11 = .ok (.imul, 1) := by decide +kernel
theorem dX12_allMoves_12 : decode cX12_allMoves 12 = .ok (.istore_n 1, 1) := by decide +kernel
theorem dX12_allMoves_13 : decode cX12_allMoves 13 = .ok (.iinc 2 1, 3) := by decide +kernel
theorem dX12_allMoves_16 : decode cX12_allMoves 16 = .ok (.goto (-12), 3) := by decide +kernel
theorem dX12_allMoves_19 : decode cX12_allMoves 19 = .ok (.iload_n 1, 1) := by decide +kernel
theorem dX12_allMoves_20 : decode cX12_allMoves 20 = .ok (.ireturn, 1) := by decide +kernel
theorem dX12_keepBest_0 : decode cX12_keepBest 0 = .ok (.aload_n 0, 1) := by decide +kernel
theorem dX12_keepBest_1 : decode cX12_keepBest 1 = .ok (.iconst 1, 1) := by decide +kernel
theorem dX12_keepBest_2 : decode cX12_keepBest 2 = .ok (.putfield 328, 3) := by decide +kernel
theorem dX12_keepBest_5 : decode cX12_keepBest 5 = .ok (.iconst 0, 1) := by decide +kernel
theorem dX12_keepBest_6 : decode cX12_keepBest 6 = .ok (.istore_n 2, 1) := by decide +kernel
theorem dX12_keepBest_7 : decode cX12_keepBest 7 = .ok (.iload_n 2, 1) := by decide +kernel
theorem dX12_keepBest_8 : decode cX12_keepBest 8 = .ok (.iload_n 1, 1) := by decide +kernel
theorem dX12_keepBest_9 : decode cX12_keepBest 9 = .ok (.if_icmp .ge 21, 3) := by decide +kernel
theorem dX12_keepBest_12 : decode cX12_keepBest 12 = .ok (.aload_n 0, 1) := by decide +kernel
theorem dX12_keepBest_13 : decode cX12_keepBest 13 = .ok (.getfield 72, 3) := by decide +kernel
theorem dX12_keepBest_16 : decode cX12_keepBest 16 = .ok (.iload_n 2, 1) := by decide +kernel
theorem dX12_keepBest_17 : decode cX12_keepBest 17 = .ok (.aload_n 0, 1) := by decide +kernel
theorem dX12_keepBest_18 : decode cX12_keepBest 18 = .ok (.getfield 69, 3) := by decide +kernel
theorem dX12_keepBest_21 : decode cX12_keepBest 21 = .ok (.iload_n 2, 1) := by decide +kernel
theorem dX12_keepBest_22 : decode cX12_keepBest 22 = .ok (.iaload, 1) := by decide +kernel
theorem dX12_keepBest_23 : decode cX12_keepBest 23 = .ok (.iastore, 1) := by decide +kernel
theorem dX12_keepBest_24 : decode cX12_keepBest 24 = .ok (.iinc 2 1, 3) := by decide +kernel
theorem dX12_keepBest_27 : decode cX12_keepBest 27 = .ok (.goto (-20), 3) := by decide +kernel
theorem dX12_keepBest_30 : decode cX12_keepBest 30 = .ok (.return_, 1) := by decide +kernel
theorem dX12_best_0 : decode cX12_best 0 = .ok (.iload_n 1, 1) := by decide +kernel
theorem dX12_best_1 : decode cX12_best 1 = .ok (.iconst 1, 1) := by decide +kernel
theorem dX12_best_2 : decode cX12_best 2 = .ok (.iconst 5, 1) := by decide +kernel
theorem dX12_best_3 : decode cX12_best 3 = .ok (.invokestatic 128, 3) := by decide +kernel
theorem dX12_best_6 : decode cX12_best 6 = .ok (.ifCond .eq 8, 3) := by decide +kernel
theorem dX12_best_9 : decode cX12_best 9 = .ok (.iload_n 2, 1) := by decide +kernel
theorem dX12_best_10 : decode cX12_best 10 = .ok (.iconst (-1), 1) := by decide +kernel
theorem dX12_best_11 : decode cX12_best 11 = .ok (.if_icmp .ge 7, 3) := by decide +kernel
theorem dX12_best_14 : decode cX12_best 14 = .ok (.ldc_w 331, 3) := by decide +kernel
theorem dX12_best_17 : decode cX12_best 17 = .ok (.ireturn, 1) := by decide +kernel
theorem dX12_best_18 : decode cX12_best 18 = .ok (.aload_n 0, 1) := by decide +kernel
theorem dX12_best_19 : decode cX12_best 19 = .ok (.iconst 0, 1) := by decide +kernel
theorem dX12_best_20 : decode cX12_best 20 = .ok (.putfield 328, 3) := by decide +kernel
theorem dX12_best_23 : decode cX12_best 23 = .ok (.iconst 0, 1) := by decide +kernel
theorem dX12_best_24 : decode cX12_best 24 = .ok (.istore_n 3, 1) := by decide +kernel
theorem dX12_best_25 : decode cX12_best 25 = .ok (.iload_n 3, 1) := by decide +kernel
theorem dX12_best_26 : decode cX12_best 26 = .ok (.iload_n 1, 1) := by decide +kernel
theorem dX12_best_27 : decode cX12_best 27 = .ok (.invokestatic 332, 3) := by decide +kernel
theorem dX12_best_30 : decode cX12_best 30 = .ok (.if_icmp .ge 61, 3) := by decide +kernel
theorem dX12_best_33 : decode cX12_best 33 = .ok (.aload_n 0, 1) := by decide +kernel
theorem dX12_best_34 : decode cX12_best 34 = .ok (.iload_n 1, 1) := by decide +kernel
theorem dX12_best_35 : decode cX12_best 35 = .ok (.iload_n 3, 1) := by decide +kernel
theorem dX12_best_36 : decode cX12_best 36 = .ok (.invokevirtual 335, 3) := by decide +kernel
theorem dX12_best_39 : decode cX12_best 39 = .ok (.aload_n 0, 1) := by decide +kernel
theorem dX12_best_40 : decode cX12_best 40 = .ok (.iload_n 1, 1) := by decide +kernel
theorem dX12_best_41 : decode cX12_best 41 = .ok (.invokevirtual 338, 3) := by decide +kernel
theorem dX12_best_44 : decode cX12_best 44 = .ok (.aload_n 0, 1) := by decide +kernel
theorem dX12_best_45 : decode cX12_best 45 = .ok (.invokevirtual 322, 3) := by decide +kernel
theorem dX12_best_48 : decode cX12_best 48 = .ok (.aload_n 0, 1) := by decide +kernel
theorem dX12_best_49 : decode cX12_best 49 = .ok (.invokevirtual 325, 3) := by decide +kernel
theorem dX12_best_52 : decode cX12_best 52 = .ok (.isub, 1) := by decide +kernel
theorem dX12_best_53 : decode cX12_best 53 = .ok (.istore 4, 2) := by decide +kernel
theorem dX12_best_55 : decode cX12_best 55 = .ok (.aload_n 0, 1) := by decide +kernel
theorem dX12_best_56 : decode cX12_best 56 = .ok (.getfield 328, 3) := by decide +kernel
theorem dX12_best_59 : decode cX12_best 59 = .ok (.ifCond .eq 15, 3) := by decide +kernel
theorem dX12_best_62 : decode cX12_best 62 = .ok (.iload 4, 2) := by decide +kernel
theorem dX12_best_64 : decode cX12_best 64 = .ok (.aload_n 0, 1) := by decide +kernel
theorem dX12_best_65 : decode cX12_best 65 = .ok (.getfield 341, 3) := by decide +kernel
theorem dX12_best_68 : decode cX12_best 68 = .ok (.if_icmp .gt 6, 3) := by decide +kernel
theorem dX12_best_71 : decode cX12_best 71 = .ok (.goto 14, 3) := by decide +kernel
theorem dX12_best_74 : decode cX12_best 74 = .ok (.aload_n 0, 1) := by decide +kernel
theorem dX12_best_75 : decode cX12_best 75 = .ok (.iload 4, 2) := by decide +kernel
theorem dX12_best_77 : decode cX12_best 77 = .ok (.putfield 341, 3) := by decide +kernel
theorem dX12_best_80 : decode cX12_best 80 = .ok (.aload_n 0, 1) := by decide +kernel
theorem dX12_best_81 : decode cX12_best 81 = .ok (.iload_n 1, 1) := by decide +kernel
theorem dX12_best_82 : decode cX12_best 82 = .ok (.invokevirtual 344, 3) := by decide +kernel
theorem dX12_best_85 : decode cX12_best 85 = .ok (.iinc 3 1, 3) := by decide +kernel
theorem dX12_best_88 : decode cX12_best 88 = .ok (.goto (-63), 3) := by decide +kernel
theorem dX12_best_91 : decode cX12_best 91 = .ok (.iload_n 2, 1) := by decide +kernel
theorem dX12_best_92 : decode cX12_best 92 = .ok (.ifCond .ge 10, 3) := by decide +kernel
theorem dX12_best_95 : decode cX12_best 95 = .ok (.aload_n 0, 1) := by decide +kernel
theorem dX12_best_96 : decode cX12_best 96 = .ok (.getfield 341, 3) := by decide +kernel
theorem dX12_best_99 : decode cX12_best 99 = .ok (.goto 19, 3) := by decide +kernel
theorem dX12_best_102 : decode cX12_best 102 = .ok (.iload_n 2, 1) := by decide +kernel
theorem dX12_best_103 : decode cX12_best 103 = .ok (.iload_n 1, 1) := by decide +kernel
theorem dX12_best_104 : decode cX12_best 104 = .ok (.if_icmp .ge 12, 3) := by decide +kernel
theorem dX12_best_107 : decode cX12_best 107 = .ok (.aload_n 0, 1) := by decide +kernel
theorem dX12_best_108 : decode cX12_best 108 = .ok (.getfield 72, 3) := by decide +kernel
theorem dX12_best_111 : decode cX12_best 111 = .ok (.iload_n 2, 1) := by decide +kernel
theorem dX12_best_112 : decode cX12_best 112 = .ok (.iaload, 1) := by decide +kernel
theorem dX12_best_113 : decode cX12_best 113 = .ok (.goto 5, 3) := by decide +kernel
theorem dX12_best_116 : decode cX12_best 116 = .ok (.bipush (-2), 2) := by decide +kernel
theorem dX12_best_118 : decode cX12_best 118 = .ok (.ireturn, 1) := by decide +kernel
theorem dX12_findTouch_0 : decode cX12_findTouch 0 = .ok (.iconst 0, 1) := by decide +kernel
theorem dX12_findTouch_1 : decode cX12_findTouch 1 = .ok (.istore_n 2, 1) := by decide +kernel
theorem dX12_findTouch_2 : decode cX12_findTouch 2 = .ok (.iload_n 2, 1) := by decide +kernel
theorem dX12_findTouch_3 : decode cX12_findTouch 3 = .ok (.iload_n 1, 1) := by decide +kernel
theorem dX12_findTouch_4 : decode cX12_findTouch 4 = .ok (.invokestatic 332, 3) := by decide +kernel
theorem dX12_findTouch_7 : decode cX12_findTouch 7 = .ok (.if_icmp .ge 52, 3) := by decide +kernel
theorem dX12_findTouch_10 : decode cX12_findTouch 10 = .ok (.aload_n 0, 1) := by decide +kernel
theorem dX12_findTouch_11 : decode cX12_findTouch 11 = .ok (.iload_n 1, 1) := by decide +kernel
theorem dX12_findTouch_12 : decode cX12_findTouch 12 = .ok (.iload_n 2, 1) := by decide +kernel
theorem dX12_findTouch_13 : decode cX12_findTouch 13 = .ok (.invokevirtual 335, 3) := by decide +kernel
theorem dX12_findTouch_16 : decode cX12_findTouch 16 = .ok (.aload_n 0, 1) := by decide +kernel
theorem dX12_findTouch_17 : decode cX12_findTouch 17 = .ok (.iload_n 1, 1) := by decide +kernel
theorem dX12_findTouch_18 : decode cX12_findTouch 18 = .ok (.invokevirtual 338, 3) := by decide +kernel
theorem dX12_findTouch_21 : decode cX12_findTouch 21 = .ok (.aload_n 0, 1) := by decide +kernel
theorem dX12_findTouch_22 : decode cX12_findTouch 22 = .ok (.getfield 258, 3) := by decide +kernel
theorem dX12_findTouch_25 : decode cX12_findTouch 25 = .ok (.iconst 1, 1) := by decide +kernel
theorem dX12_findTouch_26 : decode cX12_findTouch 26 = .ok (.if_icmp .ne 27, 3) := by decide +kernel
theorem dX12_findTouch_29 : decode cX12_findTouch 29 = .ok (.aload_n 0, 1) := by decide +kernel
theorem dX12_findTouch_30 : decode cX12_findTouch 30 = .ok (.getfield 261, 3) := by decide +kernel
theorem dX12_findTouch_33 : decode cX12_findTouch 33 = .ok (.aload_n 0, 1) := by decide +kernel
theorem dX12_findTouch_34 : decode cX12_findTouch 34 = .ok (.getfield 347, 3) := by decide +kernel
theorem dX12_findTouch_37 : decode cX12_findTouch 37 = .ok (.ishr, 1) := by decide +kernel
theorem dX12_findTouch_38 : decode cX12_findTouch 38 = .ok (.iconst 1, 1) := by decide +kernel
theorem dX12_findTouch_39 : decode cX12_findTouch 39 = .ok (.iand, 1) := by decide +kernel
theorem dX12_findTouch_40 : decode cX12_findTouch 40 = .ok (.ifCond .ne 6, 3) := by decide +kernel
theorem dX12_findTouch_43 : decode cX12_findTouch 43 = .ok (.goto 10, 3) := by decide +kernel
theorem dX12_findTouch_46 : decode cX12_findTouch 46 = .ok (.aload_n 0, 1) := by decide +kernel
theorem dX12_findTouch_47 : decode cX12_findTouch 47 = .ok (.iload_n 1, 1) := by decide +kernel
theorem dX12_findTouch_48 : decode cX12_findTouch 48 = .ok (.invokevirtual 344, 3) := by decide +kernel
theorem dX12_findTouch_51 : decode cX12_findTouch 51 = .ok (.iconst 1, 1) := by decide +kernel
theorem dX12_findTouch_52 : decode cX12_findTouch 52 = .ok (.ireturn, 1) := by decide +kernel
theorem dX12_findTouch_53 : decode cX12_findTouch 53 = .ok (.iinc 2 1, 3) := by decide +kernel
theorem dX12_findTouch_56 : decode cX12_findTouch 56 = .ok (.goto (-54), 3) := by decide +kernel
theorem dX12_findTouch_59 : decode cX12_findTouch 59 = .ok (.iconst 0, 1) := by decide +kernel
theorem dX12_findTouch_60 : decode cX12_findTouch 60 = .ok (.ireturn, 1) := by decide +kernel
theorem dX12_touch_0 : decode cX12_touch 0 = .ok (.aload_n 0, 1) := by decide +kernel
theorem dX12_touch_1 : decode cX12_touch 1 = .ok (.iload_n 1, 1) := by decide +kernel
theorem dX12_touch_2 : decode cX12_touch 2 = .ok (.invokevirtual 162, 3) := by decide +kernel
theorem dX12_touch_5 : decode cX12_touch 5 = .ok (.ifCond .eq 17, 3) := by decide +kernel
theorem dX12_touch_8 : decode cX12_touch 8 = .ok (.aload_n 0, 1) := by decide +kernel
theorem dX12_touch_9 : decode cX12_touch 9 = .ok (.getfield 19, 3) := by decide +kernel
theorem dX12_touch_12 : decode cX12_touch 12 = .ok (.iload_n 1, 1) := by decide +kernel
theorem dX12_touch_13 : decode cX12_touch 13 = .ok (.iaload, 1) := by decide +kernel
theorem dX12_touch_14 : decode cX12_touch 14 = .ok (.ifCond .eq 8, 3) := by decide +kernel
theorem dX12_touch_17 : decode cX12_touch 17 = .ok (.iload_n 2, 1) := by decide +kernel
theorem dX12_touch_18 : decode cX12_touch 18 = .ok (.iconst (-1), 1) := by decide +kernel
theorem dX12_touch_19 : decode cX12_touch 19 = .ok (.if_icmp .ge 5, 3) := by decide +kernel
theorem dX12_touch_22 : decode cX12_touch 22 = .ok (.iconst (-1), 1) := by decide +kernel
theorem dX12_touch_23 : decode cX12_touch 23 = .ok (.ireturn, 1) := by decide +kernel
theorem dX12_touch_24 : decode cX12_touch 24 = .ok (.aload_n 0, 1) := by decide +kernel
theorem dX12_touch_25 : decode cX12_touch 25 = .ok (.iload_n 1, 1) := by decide +kernel
theorem dX12_touch_26 : decode cX12_touch 26 = .ok (.putfield 347, 3) := by decide +kernel
theorem dX12_touch_29 : decode cX12_touch 29 = .ok (.iconst 1, 1) := by decide +kernel
theorem dX12_touch_30 : decode cX12_touch 30 = .ok (.istore_n 3, 1) := by decide +kernel
theorem dX12_touch_31 : decode cX12_touch 31 = .ok (.iload_n 3, 1) := by decide +kernel
theorem dX12_touch_32 : decode cX12_touch 32 = .ok (.iconst 5, 1) := by decide +kernel
theorem dX12_touch_33 : decode cX12_touch 33 = .ok (.if_icmp .gt 42, 3) := by decide +kernel
theorem dX12_touch_36 : decode cX12_touch 36 = .ok (.aload_n 0, 1) := by decide +kernel
theorem dX12_touch_37 : decode cX12_touch 37 = .ok (.iload_n 3, 1) := by decide +kernel
theorem dX12_touch_38 : decode cX12_touch 38 = .ok (.invokevirtual 350, 3) := by decide +kernel
theorem dX12_touch_41 : decode cX12_touch 41 = .ok (.ifCond .eq 28, 3) := by decide +kernel
theorem dX12_touch_44 : decode cX12_touch 44 = .ok (.iload_n 2, 1) := by decide +kernel
theorem dX12_touch_45 : decode cX12_touch 45 = .ok (.ifCond .ge 7, 3) := by decide +kernel
theorem dX12_touch_48 : decode cX12_touch 48 = .ok (.iload_n 3, 1) := by decide +kernel
theorem dX12_touch_49 : decode cX12_touch 49 = .ok (.goto 19, 3) := by decide +kernel
theorem dX12_touch_52 : decode cX12_touch 52 = .ok (.iload_n 2, 1) := by decide +kernel
theorem dX12_touch_53 : decode cX12_touch 53 = .ok (.iload_n 3, 1) := by decide +kernel
theorem dX12_touch_54 : decode cX12_touch 54 = .ok (.if_icmp .ge 12, 3) := by decide +kernel
theorem dX12_touch_57 : decode cX12_touch 57 = .ok (.aload_n 0, 1) := by decide +kernel
theorem dX12_touch_58 : decode cX12_touch 58 = .ok (.getfield 72, 3) := by decide +kernel
theorem dX12_touch_61 : decode cX12_touch 61 = .ok (.iload_n 2, 1) := by decide +kernel
theorem dX12_touch_62 : decode cX12_touch 62 = .ok (.iaload, 1) := by decide +kernel
theorem dX12_touch_63 : decode cX12_touch 63 = .ok (.goto 5, 3) := by decide +kernel
theorem dX12_touch_66 : decode cX12_touch 66 = .ok (.bipush (-2), 2) := by decide +kernel
theorem dX12_touch_68 : decode cX12_touch 68 = .ok (.ireturn, 1) := by decide +kernel
theorem dX12_touch_69 : decode cX12_touch 69 = .ok (.iinc 3 1, 3) := by decide +kernel
theorem dX12_touch_72 : decode cX12_touch 72 = .ok (.goto (-41), 3) := by decide +kernel
theorem dX12_touch_75 : decode cX12_touch 75 = .ok (.bipush (-2), 2) := by decide +kernel
theorem dX12_touch_77 : decode cX12_touch 77 = .ok (.ireturn, 1) := by decide +kernel
theorem dX12_needs_0 : decode cX12_needs 0 = .ok (.iload_n 1, 1) := by decide +kernel
theorem dX12_needs_1 : decode cX12_needs 1 = .ok (.invokestatic 143, 3) := by decide +kernel
theorem dX12_needs_4 : decode cX12_needs 4 = .ok (.ifCond .ne 5, 3) := by decide +kernel
theorem dX12_needs_7 : decode cX12_needs 7 = .ok (.iconst (-1), 1) := by decide +kernel
theorem dX12_needs_8 : decode cX12_needs 8 = .ok (.ireturn, 1) := by decide +kernel
theorem dX12_needs_9 : decode cX12_needs 9 = .ok (.aload_n 0, 1) := by decide +kernel
theorem dX12_needs_10 : decode cX12_needs 10 = .ok (.iload_n 1, 1) := by decide +kernel
theorem dX12_needs_11 : decode cX12_needs 11 = .ok (.invokevirtual 316, 3) := by decide +kernel
theorem dX12_needs_14 : decode cX12_needs 14 = .ok (.ifCond .ge 9, 3) := by decide +kernel
theorem dX12_needs_17 : decode cX12_needs 17 = .ok (.aload_n 0, 1) := by decide +kernel
theorem dX12_needs_18 : decode cX12_needs 18 = .ok (.iload_n 1, 1) := by decide +kernel
theorem dX12_needs_19 : decode cX12_needs 19 = .ok (.invokevirtual 316, 3) := by decide +kernel
theorem dX12_needs_22 : decode cX12_needs 22 = .ok (.ireturn, 1) := by decide +kernel
theorem dX12_needs_23 : decode cX12_needs 23 = .ok (.aload_n 0, 1) := by decide +kernel
theorem dX12_needs_24 : decode cX12_needs 24 = .ok (.getfield 22, 3) := by decide +kernel
theorem dX12_needs_27 : decode cX12_needs 27 = .ok (.iconst 0, 1) := by decide +kernel
theorem dX12_needs_28 : decode cX12_needs 28 = .ok (.iaload, 1) := by decide +kernel
theorem dX12_needs_29 : decode cX12_needs 29 = .ok (.istore_n 2, 1) := by decide +kernel
theorem dX12_needs_30 : decode cX12_needs 30 = .ok (.aload_n 0, 1) := by decide +kernel
theorem dX12_needs_31 : decode cX12_needs 31 = .ok (.getfield 22, 3) := by decide +kernel
theorem dX12_needs_34 : decode cX12_needs 34 = .ok (.iconst 0, 1) := by decide +kernel
theorem dX12_needs_35 : decode cX12_needs 35 = .ok (.bipush 60, 2) := by decide +kernel
theorem dX12_needs_37 : decode cX12_needs 37 = .ok (.iastore, 1) := by decide +kernel
theorem dX12_needs_38 : decode cX12_needs 38 = .ok (.aload_n 0, 1) := by decide +kernel
theorem dX12_needs_39 : decode cX12_needs 39 = .ok (.iload_n 1, 1) := by decide +kernel
theorem dX12_needs_40 : decode cX12_needs 40 = .ok (.bipush 60, 2) := by decide +kernel
theorem dX12_needs_42 : decode cX12_needs 42 = .ok (.invokevirtual 319, 3) := by decide +kernel
theorem dX12_needs_45 : decode cX12_needs 45 = .ok (.aload_n 0, 1) := by decide +kernel
theorem dX12_needs_46 : decode cX12_needs 46 = .ok (.getfield 22, 3) := by decide +kernel
theorem dX12_needs_49 : decode cX12_needs 49 = .ok (.iconst 0, 1) := by decide +kernel
theorem dX12_needs_50 : decode cX12_needs 50 = .ok (.iload_n 2, 1) := by decide +kernel
theorem dX12_needs_51 : decode cX12_needs 51 = .ok (.iastore, 1) := by decide +kernel
theorem dX12_needs_52 : decode cX12_needs 52 = .ok (.aload_n 0, 1) := by decide +kernel
theorem dX12_needs_53 : decode cX12_needs 53 = .ok (.getfield 258, 3) := by decide +kernel
theorem dX12_needs_56 : decode cX12_needs 56 = .ok (.iconst 1, 1) := by decide +kernel
theorem dX12_needs_57 : decode cX12_needs 57 = .ok (.if_icmp .ne 10, 3) := by decide +kernel
theorem dX12_needs_60 : decode cX12_needs 60 = .ok (.aload_n 0, 1) := by decide +kernel
theorem dX12_needs_61 : decode cX12_needs 61 = .ok (.getfield 255, 3) := by decide +kernel
theorem dX12_needs_64 : decode cX12_needs 64 = .ok (.goto 5, 3) := by decide +kernel
theorem dX12_needs_67 : decode cX12_needs 67 = .ok (.bipush (-2), 2) := by decide +kernel
theorem dX12_needs_69 : decode cX12_needs 69 = .ok (.ireturn, 1) := by decide +kernel
theorem dX12_spared_0 : decode cX12_spared 0 = .ok (.iload_n 1, 1) := by decide +kernel
theorem dX12_spared_1 : decode cX12_spared 1 = .ok (.invokestatic 143, 3) := by decide +kernel
theorem dX12_spared_4 : decode cX12_spared 4 = .ok (.ifCond .ne 5, 3) := by decide +kernel
theorem dX12_spared_7 : decode cX12_spared 7 = .ok (.iconst (-1), 1) := by decide +kernel
theorem dX12_spared_8 : decode cX12_spared 8 = .ok (.ireturn, 1) := by decide +kernel
theorem dX12_spared_9 : decode cX12_spared 9 = .ok (.aload_n 0, 1) := by decide +kernel
theorem dX12_spared_10 : decode cX12_spared 10 = .ok (.iload_n 1, 1) := by decide +kernel
theorem dX12_spared_11 : decode cX12_spared 11 = .ok (.invokevirtual 316, 3) := by decide +kernel
theorem dX12_spared_14 : decode cX12_spared 14 = .ok (.ifCond .ge 9, 3) := by decide +kernel
theorem dX12_spared_17 : decode cX12_spared 17 = .ok (.aload_n 0, 1) := by decide +kernel
theorem dX12_spared_18 : decode cX12_spared 18 = .ok (.iload_n 1, 1) := by decide +kernel
theorem dX12_spared_19 : decode cX12_spared 19 = .ok (.invokevirtual 316, 3) := by decide +kernel
theorem dX12_spared_22 : decode cX12_spared 22 = .ok (.ireturn, 1) := by decide +kernel
theorem dX12_spared_23 : decode cX12_spared 23 = .ok (.aload_n 0, 1) := by decide +kernel
theorem dX12_spared_24 : decode cX12_spared 24 = .ok (.iload_n 1, 1) := by decide +kernel
theorem dX12_spared_25 : decode cX12_spared 25 = .ok (.bipush 60, 2) := by decide +kernel
theorem dX12_spared_27 : decode cX12_spared 27 = .ok (.invokevirtual 319, 3) := by decide +kernel
theorem dX12_spared_30 : decode cX12_spared 30 = .ok (.aload_n 0, 1) := by decide +kernel
theorem dX12_spared_31 : decode cX12_spared 31 = .ok (.getfield 258, 3) := by decide +kernel
theorem dX12_spared_34 : decode cX12_spared 34 = .ok (.iconst 2, 1) := by decide +kernel
theorem dX12_spared_35 : decode cX12_spared 35 = .ok (.if_icmp .eq 5, 3) := by decide +kernel
theorem dX12_spared_38 : decode cX12_spared 38 = .ok (.iconst 0, 1) := by decide +kernel
theorem dX12_spared_39 : decode cX12_spared 39 = .ok (.ireturn, 1) := by decide +kernel
theorem dX12_spared_40 : decode cX12_spared 40 = .ok (.iconst 0, 1) := by decide +kernel
theorem dX12_spared_41 : decode cX12_spared 41 = .ok (.istore_n 2, 1) := by decide +kernel
theorem dX12_spared_42 : decode cX12_spared 42 = .ok (.iconst 0, 1) := by decide +kernel
theorem dX12_spared_43 : decode cX12_spared 43 = .ok (.istore_n 3, 1) := by decide +kernel
theorem dX12_spared_44 : decode cX12_spared 44 = .ok (.iload_n 3, 1) := by decide +kernel
theorem dX12_spared_45 : decode cX12_spared 45 = .ok (.aload_n 0, 1) := by decide +kernel
theorem dX12_spared_46 : decode cX12_spared 46 = .ok (.getfield 125, 3) := by decide +kernel
theorem dX12_spared_49 : decode cX12_spared 49 = .ok (.if_icmp .ge 56, 3) := by decide +kernel
theorem dX12_spared_52 : decode cX12_spared 52 = .ok (.aload_n 0, 1) := by decide +kernel
theorem dX12_spared_53 : decode cX12_spared 53 = .ok (.getfield 19, 3) := by decide +kernel
