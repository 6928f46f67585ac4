theorem dX6_ifEmpty_5 : decode cX6_ifEmpty 5 = .ok (.getfield 15, 3) := by decide +kernel
theorem dX6_ifEmpty_8 : decode cX6_ifEmpty 8 = .ok (.iload_n 1, 1) := by decide +kernel
theorem dX6_ifEmpty_9 : decode cX6_ifEmpty 9 = .ok (.bipush 61, 2) := by decide +kernel
theorem dX6_ifEmpty_11 : decode cX6_ifEmpty 11 = .ok (.imul, 1) := by decide +kernel
theorem dX6_ifEmpty_12 : decode cX6_ifEmpty 12 = .ok (.iload_n 2, 1) := by decide +kernel
theorem dX6_ifEmpty_13 : decode cX6_ifEmpty 13 = .ok (.iadd, 1) := by decide +kernel
theorem dX6_ifEmpty_14 : decode cX6_ifEmpty 14 = .ok (.iaload, 1) := by decide +kernel
theorem dX6_ifEmpty_15 : decode cX6_ifEmpty 15 = .ok (.ireturn, 1) := by decide +kernel
theorem dX6_ifEmpty_16 : decode cX6_ifEmpty 16 = .ok (.iload_n 1, 1) := by decide +kernel
theorem dX6_ifEmpty_17 : decode cX6_ifEmpty 17 = .ok (.iconst 2, 1) := by decide +kernel
theorem dX6_ifEmpty_18 : decode cX6_ifEmpty 18 = .ok (.if_icmp .ne 14, 3) := by decide +kernel
theorem dX6_ifEmpty_21 : decode cX6_ifEmpty 21 = .ok (.aload_n 0, 1) := by decide +kernel
theorem dX6_ifEmpty_22 : decode cX6_ifEmpty 22 = .ok (.getfield 15, 3) := by decide +kernel
theorem dX6_ifEmpty_25 : decode cX6_ifEmpty 25 = .ok (.iload_n 2, 1) := by decide +kernel
theorem dX6_ifEmpty_26 : decode cX6_ifEmpty 26 = .ok (.iconst 1, 1) := by decide +kernel
theorem dX6_ifEmpty_27 : decode cX6_ifEmpty 27 = .ok (.isub, 1) := by decide +kernel
theorem dX6_ifEmpty_28 : decode cX6_ifEmpty 28 = .ok (.iaload, 1) := by decide +kernel
theorem dX6_ifEmpty_29 : decode cX6_ifEmpty 29 = .ok (.goto 16, 3) := by decide +kernel
theorem dX6_ifEmpty_32 : decode cX6_ifEmpty 32 = .ok (.aload_n 0, 1) := by decide +kernel
theorem dX6_ifEmpty_33 : decode cX6_ifEmpty 33 = .ok (.getfield 15, 3) := by decide +kernel
theorem dX6_ifEmpty_36 : decode cX6_ifEmpty 36 = .ok (.iload_n 1, 1) := by decide +kernel
theorem dX6_ifEmpty_37 : decode cX6_ifEmpty 37 = .ok (.iconst 1, 1) := by decide +kernel
theorem dX6_ifEmpty_38 : decode cX6_ifEmpty 38 = .ok (.iadd, 1) := by decide +kernel
theorem dX6_ifEmpty_39 : decode cX6_ifEmpty 39 = .ok (.bipush 61, 2) := by decide +kernel
theorem dX6_ifEmpty_41 : decode cX6_ifEmpty 41 = .ok (.imul, 1) := by decide +kernel
theorem dX6_ifEmpty_42 : decode cX6_ifEmpty 42 = .ok (.iload_n 2, 1) := by decide +kernel
theorem dX6_ifEmpty_43 : decode cX6_ifEmpty 43 = .ok (.iadd, 1) := by decide +kernel
theorem dX6_ifEmpty_44 : decode cX6_ifEmpty 44 = .ok (.iaload, 1) := by decide +kernel
theorem dX6_ifEmpty_45 : decode cX6_ifEmpty 45 = .ok (.ireturn, 1) := by decide +kernel
theorem dX6_ofRaid_0 : decode cX6_ofRaid 0 = .ok (.iload_n 2, 1) := by decide +kernel
theorem dX6_ofRaid_1 : decode cX6_ofRaid 1 = .ok (.bipush 12, 2) := by decide +kernel
theorem dX6_ofRaid_3 : decode cX6_ofRaid 3 = .ok (.iload_n 1, 1) := by decide +kernel
theorem dX6_ofRaid_4 : decode cX6_ofRaid 4 = .ok (.isub, 1) := by decide +kernel
theorem dX6_ofRaid_5 : decode cX6_ofRaid 5 = .ok (.invokestatic 54, 3) := by decide +kernel
theorem dX6_ofRaid_8 : decode cX6_ofRaid 8 = .ok (.istore 5, 2) := by decide +kernel
theorem dX6_ofRaid_10 : decode cX6_ofRaid 10 = .ok (.bipush 12, 2) := by decide +kernel
theorem dX6_ofRaid_12 : decode cX6_ofRaid 12 = .ok (.iload_n 1, 1) := by decide +kernel
theorem dX6_ofRaid_13 : decode cX6_ofRaid 13 = .ok (.isub, 1) := by decide +kernel
theorem dX6_ofRaid_14 : decode cX6_ofRaid 14 = .ok (.iload 5, 2) := by decide +kernel
theorem dX6_ofRaid_16 : decode cX6_ofRaid 16 = .ok (.isub, 1) := by decide +kernel
theorem dX6_ofRaid_17 : decode cX6_ofRaid 17 = .ok (.istore 6, 2) := by decide +kernel
theorem dX6_ofRaid_19 : decode cX6_ofRaid 19 = .ok (.iload_n 1, 1) := by decide +kernel
theorem dX6_ofRaid_20 : decode cX6_ofRaid 20 = .ok (.aload_n 0, 1) := by decide +kernel
theorem dX6_ofRaid_21 : decode cX6_ofRaid 21 = .ok (.getfield 15, 3) := by decide +kernel
theorem dX6_ofRaid_24 : decode cX6_ofRaid 24 = .ok (.iload_n 3, 1) := by decide +kernel
theorem dX6_ofRaid_25 : decode cX6_ofRaid 25 = .ok (.iconst 1, 1) := by decide +kernel
theorem dX6_ofRaid_26 : decode cX6_ofRaid 26 = .ok (.iadd, 1) := by decide +kernel
theorem dX6_ofRaid_27 : decode cX6_ofRaid 27 = .ok (.iaload, 1) := by decide +kernel
theorem dX6_ofRaid_28 : decode cX6_ofRaid 28 = .ok (.imul, 1) := by decide +kernel
theorem dX6_ofRaid_29 : decode cX6_ofRaid 29 = .ok (.iload 5, 2) := by decide +kernel
theorem dX6_ofRaid_31 : decode cX6_ofRaid 31 = .ok (.aload_n 0, 1) := by decide +kernel
theorem dX6_ofRaid_32 : decode cX6_ofRaid 32 = .ok (.getfield 15, 3) := by decide +kernel
theorem dX6_ofRaid_35 : decode cX6_ofRaid 35 = .ok (.iload_n 3, 1) := by decide +kernel
theorem dX6_ofRaid_36 : decode cX6_ofRaid 36 = .ok (.iconst 1, 1) := by decide +kernel
theorem dX6_ofRaid_37 : decode cX6_ofRaid 37 = .ok (.isub, 1) := by decide +kernel
theorem dX6_ofRaid_38 : decode cX6_ofRaid 38 = .ok (.iaload, 1) := by decide +kernel
theorem dX6_ofRaid_39 : decode cX6_ofRaid 39 = .ok (.imul, 1) := by decide +kernel
theorem dX6_ofRaid_40 : decode cX6_ofRaid 40 = .ok (.iadd, 1) := by decide +kernel
theorem dX6_ofRaid_41 : decode cX6_ofRaid 41 = .ok (.iload 6, 2) := by decide +kernel
theorem dX6_ofRaid_43 : decode cX6_ofRaid 43 = .ok (.iload 4, 2) := by decide +kernel
theorem dX6_ofRaid_45 : decode cX6_ofRaid 45 = .ok (.imul, 1) := by decide +kernel
theorem dX6_ofRaid_46 : decode cX6_ofRaid 46 = .ok (.iadd, 1) := by decide +kernel
theorem dX6_ofRaid_47 : decode cX6_ofRaid 47 = .ok (.bipush 12, 2) := by decide +kernel
theorem dX6_ofRaid_49 : decode cX6_ofRaid 49 = .ok (.idiv, 1) := by decide +kernel
theorem dX6_ofRaid_50 : decode cX6_ofRaid 50 = .ok (.ireturn, 1) := by decide +kernel
theorem dX7_init_0 : decode cX7_init 0 = .ok (.aload_n 0, 1) := by decide +kernel
theorem dX7_init_1 : decode cX7_init 1 = .ok (.invokespecial 3, 3) := by decide +kernel
theorem dX7_init_4 : decode cX7_init 4 = .ok (.aload_n 0, 1) := by decide +kernel
theorem dX7_init_5 : decode cX7_init 5 = .ok (.bipush 7, 2) := by decide +kernel
theorem dX7_init_7 : decode cX7_init 7 = .ok (.newarray .int, 2) := by decide +kernel
theorem dX7_init_9 : decode cX7_init 9 = .ok (.putfield 9, 3) := by decide +kernel
theorem dX7_init_12 : decode cX7_init 12 = .ok (.aload_n 0, 1) := by decide +kernel
theorem dX7_init_13 : decode cX7_init 13 = .ok (.bipush 7, 2) := by decide +kernel
theorem dX7_init_15 : decode cX7_init 15 = .ok (.newarray .int, 2) := by decide +kernel
theorem dX7_init_17 : decode cX7_init 17 = .ok (.putfield 15, 3) := by decide +kernel
theorem dX7_init_20 : decode cX7_init 20 = .ok (.aload_n 0, 1) := by decide +kernel
theorem dX7_init_21 : decode cX7_init 21 = .ok (.bipush 6, 2) := by decide +kernel
theorem dX7_init_23 : decode cX7_init 23 = .ok (.newarray .int, 2) := by decide +kernel
theorem dX7_init_25 : decode cX7_init 25 = .ok (.putfield 20, 3) := by decide +kernel
theorem dX7_init_28 : decode cX7_init 28 = .ok (.return_, 1) := by decide +kernel
theorem dX7_begin_0 : decode cX7_begin 0 = .ok (.aload_n 0, 1) := by decide +kernel
theorem dX7_begin_1 : decode cX7_begin 1 = .ok (.aload_n 1, 1) := by decide +kernel
theorem dX7_begin_2 : decode cX7_begin 2 = .ok (.getfield 23, 3) := by decide +kernel
theorem dX7_begin_5 : decode cX7_begin 5 = .ok (.aload_n 1, 1) := by decide +kernel
theorem dX7_begin_6 : decode cX7_begin 6 = .ok (.getfield 26, 3) := by decide +kernel
theorem dX7_begin_9 : decode cX7_begin 9 = .ok (.invokevirtual 27, 3) := by decide +kernel
theorem dX7_begin_12 : decode cX7_begin 12 = .ok (.aload_n 0, 1) := by decide +kernel
theorem dX7_begin_13 : decode cX7_begin 13 = .ok (.aload_n 1, 1) := by decide +kernel
theorem dX7_begin_14 : decode cX7_begin 14 = .ok (.getfield 31, 3) := by decide +kernel
theorem dX7_begin_17 : decode cX7_begin 17 = .ok (.putfield 35, 3) := by decide +kernel
theorem dX7_begin_20 : decode cX7_begin 20 = .ok (.aload_n 0, 1) := by decide +kernel
theorem dX7_begin_21 : decode cX7_begin 21 = .ok (.aload_n 1, 1) := by decide +kernel
theorem dX7_begin_22 : decode cX7_begin 22 = .ok (.getfield 36, 3) := by decide +kernel
theorem dX7_begin_25 : decode cX7_begin 25 = .ok (.bipush 7, 2) := by decide +kernel
theorem dX7_begin_27 : decode cX7_begin 27 = .ok (.iaload, 1) := by decide +kernel
theorem dX7_begin_28 : decode cX7_begin 28 = .ok (.putfield 39, 3) := by decide +kernel
theorem dX7_begin_31 : decode cX7_begin 31 = .ok (.aload_n 0, 1) := by decide +kernel
theorem dX7_begin_32 : decode cX7_begin 32 = .ok (.iconst 0, 1) := by decide +kernel
theorem dX7_begin_33 : decode cX7_begin 33 = .ok (.putfield 42, 3) := by decide +kernel
theorem dX7_begin_36 : decode cX7_begin 36 = .ok (.aload_n 0, 1) := by decide +kernel
theorem dX7_begin_37 : decode cX7_begin 37 = .ok (.aload_n 1, 1) := by decide +kernel
theorem dX7_begin_38 : decode cX7_begin 38 = .ok (.getfield 36, 3) := by decide +kernel
theorem dX7_begin_41 : decode cX7_begin 41 = .ok (.iconst 4, 1) := by decide +kernel
theorem dX7_begin_42 : decode cX7_begin 42 = .ok (.iaload, 1) := by decide +kernel
theorem dX7_begin_43 : decode cX7_begin 43 = .ok (.putfield 45, 3) := by decide +kernel
theorem dX7_begin_46 : decode cX7_begin 46 = .ok (.aload_n 0, 1) := by decide +kernel
theorem dX7_begin_47 : decode cX7_begin 47 = .ok (.aload_n 1, 1) := by decide +kernel
theorem dX7_begin_48 : decode cX7_begin 48 = .ok (.getfield 36, 3) := by decide +kernel
theorem dX7_begin_51 : decode cX7_begin 51 = .ok (.bipush 6, 2) := by decide +kernel
theorem dX7_begin_53 : decode cX7_begin 53 = .ok (.iaload, 1) := by decide +kernel
theorem dX7_begin_54 : decode cX7_begin 54 = .ok (.putfield 48, 3) := by decide +kernel
theorem dX7_begin_57 : decode cX7_begin 57 = .ok (.aload_n 0, 1) := by decide +kernel
theorem dX7_begin_58 : decode cX7_begin 58 = .ok (.iconst 0, 1) := by decide +kernel
theorem dX7_begin_59 : decode cX7_begin 59 = .ok (.putfield 51, 3) := by decide +kernel
theorem dX7_begin_62 : decode cX7_begin 62 = .ok (.aload_n 0, 1) := by decide +kernel
theorem dX7_begin_63 : decode cX7_begin 63 = .ok (.iconst 0, 1) := by decide +kernel
theorem dX7_begin_64 : decode cX7_begin 64 = .ok (.putfield 54, 3) := by decide +kernel
theorem dX7_begin_67 : decode cX7_begin 67 = .ok (.aload_n 0, 1) := by decide +kernel
theorem dX7_begin_68 : decode cX7_begin 68 = .ok (.iconst 0, 1) := by decide +kernel
theorem dX7_begin_69 : decode cX7_begin 69 = .ok (.putfield 57, 3) := by decide +kernel
theorem dX7_begin_72 : decode cX7_begin 72 = .ok (.aload_n 0, 1) := by decide +kernel
theorem dX7_begin_73 : decode cX7_begin 73 = .ok (.iconst 0, 1) := by decide +kernel
theorem dX7_begin_74 : decode cX7_begin 74 = .ok (.putfield 60, 3) := by decide +kernel
theorem dX7_begin_77 : decode cX7_begin 77 = .ok (.aload_n 0, 1) := by decide +kernel
theorem dX7_begin_78 : decode cX7_begin 78 = .ok (.iconst 0, 1) := by decide +kernel
theorem dX7_begin_79 : decode cX7_begin 79 = .ok (.putfield 63, 3) := by decide +kernel
theorem dX7_begin_82 : decode cX7_begin 82 = .ok (.aload_n 0, 1) := by decide +kernel
theorem dX7_begin_83 : decode cX7_begin 83 = .ok (.iconst 0, 1) := by decide +kernel
theorem dX7_begin_84 : decode cX7_begin 84 = .ok (.putfield 66, 3) := by decide +kernel
theorem dX7_begin_87 : decode cX7_begin 87 = .ok (.return_, 1) := by decide +kernel
theorem dX7_goOnFrom_0 : decode cX7_goOnFrom 0 = .ok (.aload_n 0, 1) := by decide +kernel
theorem dX7_goOnFrom_1 : decode cX7_goOnFrom 1 = .ok (.aload_n 1, 1) := by decide +kernel
theorem dX7_goOnFrom_2 : decode cX7_goOnFrom 2 = .ok (.getfield 9, 3) := by decide +kernel
theorem dX7_goOnFrom_5 : decode cX7_goOnFrom 5 = .ok (.aload_n 1, 1) := by decide +kernel
theorem dX7_goOnFrom_6 : decode cX7_goOnFrom 6 = .ok (.getfield 15, 3) := by decide +kernel
theorem dX7_goOnFrom_9 : decode cX7_goOnFrom 9 = .ok (.invokevirtual 27, 3) := by decide +kernel
theorem dX7_goOnFrom_12 : decode cX7_goOnFrom 12 = .ok (.aload_n 0, 1) := by decide +kernel
theorem dX7_goOnFrom_13 : decode cX7_goOnFrom 13 = .ok (.aload_n 1, 1) := by decide +kernel
theorem dX7_goOnFrom_14 : decode cX7_goOnFrom 14 = .ok (.getfield 35, 3) := by decide +kernel
theorem dX7_goOnFrom_17 : decode cX7_goOnFrom 17 = .ok (.putfield 35, 3) := by decide +kernel
theorem dX7_goOnFrom_20 : decode cX7_goOnFrom 20 = .ok (.aload_n 0, 1) := by decide +kernel
theorem dX7_goOnFrom_21 : decode cX7_goOnFrom 21 = .ok (.aload_n 1, 1) := by decide +kernel
theorem dX7_goOnFrom_22 : decode cX7_goOnFrom 22 = .ok (.getfield 39, 3) := by decide +kernel
theorem dX7_goOnFrom_25 : decode cX7_goOnFrom 25 = .ok (.putfield 39, 3) := by decide +kernel
theorem dX7_goOnFrom_28 : decode cX7_goOnFrom 28 = .ok (.aload_n 0, 1) := by decide +kernel
theorem dX7_goOnFrom_29 : decode cX7_goOnFrom 29 = .ok (.aload_n 1, 1) := by decide +kernel
theorem dX7_goOnFrom_30 : decode cX7_goOnFrom 30 = .ok (.getfield 42, 3) := by decide +kernel
theorem dX7_goOnFrom_33 : decode cX7_goOnFrom 33 = .ok (.putfield 42, 3) := by decide +kernel
theorem dX7_goOnFrom_36 : decode cX7_goOnFrom 36 = .ok (.aload_n 0, 1) := by decide +kernel
theorem dX7_goOnFrom_37 : decode cX7_goOnFrom 37 = .ok (.aload_n 1, 1) := by decide +kernel
theorem dX7_goOnFrom_38 : decode cX7_goOnFrom 38 = .ok (.getfield 45, 3) := by decide +kernel
theorem dX7_goOnFrom_41 : decode cX7_goOnFrom 41 = .ok (.putfield 45, 3) := by decide +kernel
theorem dX7_goOnFrom_44 : decode cX7_goOnFrom 44 = .ok (.aload_n 0, 1) := by decide +kernel
theorem dX7_goOnFrom_45 : decode cX7_goOnFrom 45 = .ok (.aload_n 1, 1) := by decide +kernel
theorem dX7_goOnFrom_46 : decode cX7_goOnFrom 46 = .ok (.getfield 48, 3) := by decide +kernel
theorem dX7_goOnFrom_49 : decode cX7_goOnFrom 49 = .ok (.putfield 48, 3) := by decide +kernel
theorem dX7_goOnFrom_52 : decode cX7_goOnFrom 52 = .ok (.aload_n 0, 1) := by decide +kernel
theorem dX7_goOnFrom_53 : decode cX7_goOnFrom 53 = .ok (.aload_n 1, 1) := by decide +kernel
theorem dX7_goOnFrom_54 : decode cX7_goOnFrom 54 = .ok (.getfield 51, 3) := by decide +kernel
theorem dX7_goOnFrom_57 : decode cX7_goOnFrom 57 = .ok (.putfield 51, 3) := by decide +kernel
theorem dX7_goOnFrom_60 : decode cX7_goOnFrom 60 = .ok (.aload_n 0, 1) := by decide +kernel
theorem dX7_goOnFrom_61 : decode cX7_goOnFrom 61 = .ok (.aload_n 1, 1) := by decide +kernel
theorem dX7_goOnFrom_62 : decode cX7_goOnFrom 62 = .ok (.getfield 54, 3) := by decide +kernel
theorem dX7_goOnFrom_65 : decode cX7_goOnFrom 65 = .ok (.putfield 54, 3) := by decide +kernel
theorem dX7_goOnFrom_68 : decode cX7_goOnFrom 68 = .ok (.aload_n 0, 1) := by decide +kernel
theorem dX7_goOnFrom_69 : decode cX7_goOnFrom 69 = .ok (.aload_n 1, 1) := by decide +kernel
theorem dX7_goOnFrom_70 : decode cX7_goOnFrom 70 = .ok (.getfield 57, 3) := by decide +kernel
theorem dX7_goOnFrom_73 : decode cX7_goOnFrom 73 = .ok (.putfield 57, 3) := by decide +kernel
theorem dX7_goOnFrom_76 : decode cX7_goOnFrom 76 = .ok (.aload_n 0, 1) := by decide +kernel
theorem dX7_goOnFrom_77 : decode cX7_goOnFrom 77 = .ok (.aload_n 1, 1) := by decide +kernel
theorem dX7_goOnFrom_78 : decode cX7_goOnFrom 78 = .ok (.getfield 60, 3) := by decide +kernel
theorem dX7_goOnFrom_81 : decode cX7_goOnFrom 81 = .ok (.putfield 60, 3) := by decide +kernel
theorem dX7_goOnFrom_84 : decode cX7_goOnFrom 84 = .ok (.aload_n 0, 1) := by decide +kernel
theorem dX7_goOnFrom_85 : decode cX7_goOnFrom 85 = .ok (.aload_n 1, 1) := by decide +kernel
theorem dX7_goOnFrom_86 : decode cX7_goOnFrom 86 = .ok (.getfield 63, 3) := by decide +kernel
theorem dX7_goOnFrom_89 : decode cX7_goOnFrom 89 = .ok (.putfield 63, 3) := by decide +kernel
theorem dX7_goOnFrom_92 : decode cX7_goOnFrom 92 = .ok (.aload_n 0, 1) := by decide +kernel
theorem dX7_goOnFrom_93 : decode cX7_goOnFrom 93 = .ok (.aload_n 1, 1) := by decide +kernel
theorem dX7_goOnFrom_94 : decode cX7_goOnFrom 94 = .ok (.getfield 66, 3) := by decide +kernel
theorem dX7_goOnFrom_97 : decode cX7_goOnFrom 97 = .ok (.putfield 66, 3) := by decide +kernel
theorem dX7_goOnFrom_100 : decode cX7_goOnFrom 100 = .ok (.return_, 1) := by decide +kernel
theorem dX7_copyPlaces_0 : decode cX7_copyPlaces 0 = .ok (.iconst 0, 1) := by decide +kernel
theorem dX7_copyPlaces_1 : decode cX7_copyPlaces 1 = .ok (.istore_n 3, 1) := by decide +kernel
theorem dX7_copyPlaces_2 : decode cX7_copyPlaces 2 = .ok (.iload_n 3, 1) := by decide +kernel
theorem dX7_copyPlaces_3 : decode cX7_copyPlaces 3 = .ok (.bipush 7, 2) := by decide +kernel
theorem dX7_copyPlaces_5 : decode cX7_copyPlaces 5 = .ok (.if_icmp .ge 27, 3) := by decide +kernel
theorem dX7_copyPlaces_8 : decode cX7_copyPlaces 8 = .ok (.aload_n 0, 1) := by decide +kernel
theorem dX7_copyPlaces_9 : decode cX7_copyPlaces 9 = .ok (.getfield 9, 3) := by decide +kernel
theorem dX7_copyPlaces_12 : decode cX7_copyPlaces 12 = .ok (.iload_n 3, 1) := by decide +kernel
theorem dX7_copyPlaces_13 : decode cX7_copyPlaces 13 = .ok (.aload_n 1, 1) := by decide +kernel
theorem dX7_copyPlaces_14 : decode cX7_copyPlaces 14 = .ok (.iload_n 3, 1) := by decide +kernel
theorem dX7_copyPlaces_15 : decode cX7_copyPlaces 15 = .ok (.iaload, 1) := by decide +kernel
theorem dX7_copyPlaces_16 : decode cX7_copyPlaces 16 = .ok (.iastore, 1) := by decide +kernel
theorem dX7_copyPlaces_17 : decode cX7_copyPlaces 17 = .ok (.aload_n 0, 1) := by decide +kernel
theorem dX7_copyPlaces_18 : decode cX7_copyPlaces 18 = .ok (.getfield 15, 3) := by decide +kernel
theorem dX7_copyPlaces_21 : decode cX7_copyPlaces 21 = .ok (.iload_n 3, 1) := by decide +kernel
theorem dX7_copyPlaces_22 : decode cX7_copyPlaces 22 = .ok (.aload_n 2, 1) := by decide +kernel
theorem dX7_copyPlaces_23 : decode cX7_copyPlaces 23 = .ok (.iload_n 3, 1) := by decide +kernel
theorem dX7_copyPlaces_24 : decode cX7_copyPlaces 24 = .ok (.iaload, 1) := by decide +kernel
theorem dX7_copyPlaces_25 : decode cX7_copyPlaces 25 = .ok (.iastore, 1) := by decide +kernel
theorem dX7_copyPlaces_26 : decode cX7_copyPlaces 26 = .ok (.iinc 3 1, 3) := by decide +kernel
theorem dX7_copyPlaces_29 : decode cX7_copyPlaces 29 = .ok (.goto (-27), 3) := by decide +kernel
theorem dX7_copyPlaces_32 : decode cX7_copyPlaces 32 = .ok (.return_, 1) := by decide +kernel
theorem dX7_play_0 : decode cX7_play 0 = .ok (.iconst 0, 1) := by decide +kernel
theorem dX7_play_1 : decode cX7_play 1 = .ok (.istore_n 3, 1) := by decide +kernel
theorem dX7_play_2 : decode cX7_play 2 = .ok (.iload_n 3, 1) := by decide +kernel
theorem dX7_play_3 : decode cX7_play 3 = .ok (.aload_n 0, 1) := by decide +kernel
theorem dX7_play_4 : decode cX7_play 4 = .ok (.getfield 45, 3) := by decide +kernel
theorem dX7_play_7 : decode cX7_play 7 = .ok (.if_icmp .ge 26, 3) := by decide +kernel
theorem dX7_play_10 : decode cX7_play 10 = .ok (.aload_n 0, 1) := by decide +kernel
theorem dX7_play_11 : decode cX7_play 11 = .ok (.getfield 66, 3) := by decide +kernel
theorem dX7_play_14 : decode cX7_play 14 = .ok (.ifCond .ne 19, 3) := by decide +kernel
theorem dX7_play_17 : decode cX7_play 17 = .ok (.aload_n 0, 1) := by decide +kernel
theorem dX7_play_18 : decode cX7_play 18 = .ok (.aload_n 1, 1) := by decide +kernel
theorem dX7_play_19 : decode cX7_play 19 = .ok (.aload_n 2, 1) := by decide +kernel
theorem dX7_play_20 : decode cX7_play 20 = .ok (.iload_n 3, 1) := by decide +kernel
theorem dX7_play_21 : decode cX7_play 21 = .ok (.invokevirtual 69, 3) := by decide +kernel
theorem dX7_play_24 : decode cX7_play 24 = .ok (.invokevirtual 75, 3) := by decide +kernel
theorem dX7_play_27 : decode cX7_play 27 = .ok (.iinc 3 1, 3) := by decide +kernel
theorem dX7_play_30 : decode cX7_play 30 = .ok (.goto (-28), 3) := by decide +kernel
theorem dX7_play_33 : decode cX7_play 33 = .ok (.aload_n 0, 1) := by decide +kernel
theorem dX7_play_34 : decode cX7_play 34 = .ok (.invokevirtual 79, 3) := by decide +kernel
theorem dX7_play_37 : decode cX7_play 37 = .ok (.return_, 1) := by decide +kernel
theorem dX7_playDrawn_0 : decode cX7_playDrawn 0 = .ok (.iload_n 2, 1) := by decide +kernel
theorem dX7_playDrawn_1 : decode cX7_playDrawn 1 = .ok (.istore_n 3, 1) := by decide +kernel
theorem dX7_playDrawn_2 : decode cX7_playDrawn 2 = .ok (.iconst 0, 1) := by decide +kernel
theorem dX7_playDrawn_3 : decode cX7_playDrawn 3 = .ok (.istore 4, 2) := by decide +kernel
theorem dX7_playDrawn_5 : decode cX7_playDrawn 5 = .ok (.iload 4, 2) := by decide +kernel
theorem dX7_playDrawn_7 : decode cX7_playDrawn 7 = .ok (.aload_n 0, 1) := by decide +kernel
theorem dX7_playDrawn_8 : decode cX7_playDrawn 8 = .ok (.getfield 45, 3) := by decide +kernel
theorem dX7_playDrawn_11 : decode cX7_playDrawn 11 = .ok (.if_icmp .ge 75, 3) := by decide +kernel
theorem dX7_playDrawn_14 : decode cX7_playDrawn 14 = .ok (.aload_n 0, 1) := by decide +kernel
theorem dX7_playDrawn_15 : decode cX7_playDrawn 15 = .ok (.getfield 66, 3) := by decide +kernel
theorem dX7_playDrawn_18 : decode cX7_playDrawn 18 = .ok (.ifCond .ne 68, 3) := by decide +kernel
theorem dX7_playDrawn_21 : decode cX7_playDrawn 21 = .ok (.iload_n 3, 1) := by decide +kernel
theorem dX7_playDrawn_22 : decode cX7_playDrawn 22 = .ok (.ldc 82, 2) := by decide +kernel
theorem dX7_playDrawn_24 : decode cX7_playDrawn 24 = .ok (.imul, 1) := by decide +kernel
theorem dX7_playDrawn_25 : decode cX7_playDrawn 25 = .ok (.sipush 12345, 3) := by decide +kernel
theorem dX7_playDrawn_28 : decode cX7_playDrawn 28 = .ok (.iadd, 1) := by decide +kernel
theorem dX7_playDrawn_29 : decode cX7_playDrawn 29 = .ok (.istore_n 3, 1) := by decide +kernel
theorem dX7_playDrawn_30 : decode cX7_playDrawn 30 = .ok (.aload_n 0, 1) := by decide +kernel
theorem dX7_playDrawn_31 : decode cX7_playDrawn 31 = .ok (.getfield 54, 3) := by decide +kernel
theorem dX7_playDrawn_34 : decode cX7_playDrawn 34 = .ok (.aload_n 1, 1) := by decide +kernel
theorem dX7_playDrawn_35 : decode cX7_playDrawn 35 = .ok (.getfield 36, 3) := by decide +kernel
theorem dX7_playDrawn_38 : decode cX7_playDrawn 38 = .ok (.bipush 8, 2) := by decide +kernel
theorem dX7_playDrawn_40 : decode cX7_playDrawn 40 = .ok (.iaload, 1) := by decide +kernel
theorem dX7_playDrawn_41 : decode cX7_playDrawn 41 = .ok (.if_icmp .lt 12, 3) := by decide +kernel
theorem dX7_playDrawn_44 : decode cX7_playDrawn 44 = .ok (.iload_n 3, 1) := by decide +kernel
theorem dX7_playDrawn_45 : decode cX7_playDrawn 45 = .ok (.bipush 16, 2) := by decide +kernel
theorem dX7_playDrawn_47 : decode cX7_playDrawn 47 = .ok (.iushr, 1) := by decide +kernel
theorem dX7_playDrawn_48 : decode cX7_playDrawn 48 = .ok (.iconst 1, 1) := by decide +kernel
theorem dX7_playDrawn_49 : decode cX7_playDrawn 49 = .ok (.iand, 1) := by decide +kernel
theorem dX7_playDrawn_50 : decode cX7_playDrawn 50 = .ok (.ifCond .ne 7, 3) := by decide +kernel
theorem dX7_playDrawn_53 : decode cX7_playDrawn 53 = .ok (.iconst 1, 1) := by decide +kernel
theorem dX7_playDrawn_54 : decode cX7_playDrawn 54 = .ok (.goto 4, 3) := by decide +kernel
theorem dX7_playDrawn_57 : decode cX7_playDrawn 57 = .ok (.iconst 0, 1) := by decide +kernel
theorem dX7_playDrawn_58 : decode cX7_playDrawn 58 = .ok (.istore 5, 2) := by decide +kernel
theorem dX7_playDrawn_60 : decode cX7_playDrawn 60 = .ok (.aload_n 0, 1) := by decide +kernel
theorem dX7_playDrawn_61 : decode cX7_playDrawn 61 = .ok (.aload_n 1, 1) := by decide +kernel
theorem dX7_playDrawn_62 : decode cX7_playDrawn 62 = .ok (.iload 5, 2) := by decide +kernel
theorem dX7_playDrawn_64 : decode cX7_playDrawn 64 = .ok (.ifCond .eq 12, 3) := by decide +kernel
theorem dX7_playDrawn_67 : decode cX7_playDrawn 67 = .ok (.iload_n 3, 1) := by decide +kernel
theorem dX7_playDrawn_68 : decode cX7_playDrawn 68 = .ok (.bipush 8, 2) := by decide +kernel
theorem dX7_playDrawn_70 : decode cX7_playDrawn 70 = .ok (.iushr, 1) := by decide +kernel
theorem dX7_playDrawn_71 : decode cX7_playDrawn 71 = .ok (.iconst 5, 1) := by decide +kernel
theorem dX7_playDrawn_72 : decode cX7_playDrawn 72 = .ok (.irem, 1) := by decide +kernel
theorem dX7_playDrawn_73 : decode cX7_playDrawn 73 = .ok (.goto 4, 3) := by decide +kernel
theorem dX7_playDrawn_76 : decode cX7_playDrawn 76 = .ok (.iconst 2, 1) := by decide +kernel
theorem dX7_playDrawn_77 : decode cX7_playDrawn 77 = .ok (.invokevirtual 75, 3) := by decide +kernel
theorem dX7_playDrawn_80 : decode cX7_playDrawn 80 = .ok (.iinc 4 1, 3) := by decide +kernel
theorem dX7_playDrawn_83 : decode cX7_playDrawn 83 = .ok (.goto (-78), 3) := by decide +kernel
theorem dX7_playDrawn_86 : decode cX7_playDrawn 86 = .ok (.aload_n 0, 1) := by decide +kernel
theorem dX7_playDrawn_87 : decode cX7_playDrawn 87 = .ok (.invokevirtual 79, 3) := by decide +kernel
theorem dX7_playDrawn_90 : decode cX7_playDrawn 90 = .ok (.iload_n 3, 1) := by decide +kernel
theorem dX7_playDrawn_91 : decode cX7_playDrawn 91 = .ok (.ireturn, 1) := by decide +kernel
theorem dX7_giveUpIfTooLate_0 : decode cX7_giveUpIfTooLate 0 = .ok (.aload_n 0, 1) := by decide +kernel
theorem dX7_giveUpIfTooLate_1 : decode cX7_giveUpIfTooLate 1 = .ok (.getfield 66, 3) := by decide +kernel
theorem dX7_giveUpIfTooLate_4 : decode cX7_giveUpIfTooLate 4 = .ok (.ifCond .ne 31, 3) := by decide +kernel
theorem dX7_giveUpIfTooLate_7 : decode cX7_giveUpIfTooLate 7 = .ok (.aload_n 0, 1) := by decide +kernel
theorem dX7_giveUpIfTooLate_8 : decode cX7_giveUpIfTooLate 8 = .ok (.getfield 42, 3) := by decide +kernel
theorem dX7_giveUpIfTooLate_11 : decode cX7_giveUpIfTooLate 11 = .ok (.ifCond .eq 19, 3) := by decide +kernel
theorem dX7_giveUpIfTooLate_14 : decode cX7_giveUpIfTooLate 14 = .ok (.aload_n 0, 1) := by decide +kernel
theorem dX7_giveUpIfTooLate_15 : decode cX7_giveUpIfTooLate 15 = .ok (.getfield 42, 3) := by decide +kernel
theorem dX7_giveUpIfTooLate_18 : decode cX7_giveUpIfTooLate 18 = .ok (.aload_n 0, 1) := by decide +kernel
theorem dX7_giveUpIfTooLate_19 : decode cX7_giveUpIfTooLate 19 = .ok (.getfield 45, 3) := by decide +kernel
theorem dX7_giveUpIfTooLate_22 : decode cX7_giveUpIfTooLate 22 = .ok (.aload_n 0, 1) := by decide +kernel
theorem dX7_giveUpIfTooLate_23 : decode cX7_giveUpIfTooLate 23 = .ok (.getfield 51, 3) := by decide +kernel
theorem dX7_giveUpIfTooLate_26 : decode cX7_giveUpIfTooLate 26 = .ok (.isub, 1) := by decide +kernel
theorem dX7_giveUpIfTooLate_27 : decode cX7_giveUpIfTooLate 27 = .ok (.if_icmp .le 8, 3) := by decide +kernel
theorem dX7_giveUpIfTooLate_30 : decode cX7_giveUpIfTooLate 30 = .ok (.aload_n 0, 1) := by decide +kernel
theorem dX7_giveUpIfTooLate_31 : decode cX7_giveUpIfTooLate 31 = .ok (.iconst 3, 1) := by decide +kernel
theorem dX7_giveUpIfTooLate_32 : decode cX7_giveUpIfTooLate 32 = .ok (.putfield 66, 3) := by decide +kernel
theorem dX7_giveUpIfTooLate_35 : decode cX7_giveUpIfTooLate 35 = .ok (.return_, 1) := by decide +kernel
theorem dX7_endOfBreath_0 : decode cX7_endOfBreath 0 = .ok (.aload_n 0, 1) := by decide +kernel
theorem dX7_endOfBreath_1 : decode cX7_endOfBreath 1 = .ok (.getfield 66, 3) := by decide +kernel
theorem dX7_endOfBreath_4 : decode cX7_endOfBreath 4 = .ok (.ifCond .ne 8, 3) := by decide +kernel
theorem dX7_endOfBreath_7 : decode cX7_endOfBreath 7 = .ok (.aload_n 0, 1) := by decide +kernel
theorem dX7_endOfBreath_8 : decode cX7_endOfBreath 8 = .ok (.iconst 3, 1) := by decide +kernel
theorem dX7_endOfBreath_9 : decode cX7_endOfBreath 9 = .ok (.putfield 66, 3) := by decide +kernel
theorem dX7_endOfBreath_12 : decode cX7_endOfBreath 12 = .ok (.return_, 1) := by decide +kernel
theorem dX7_second_0 : decode cX7_second 0 = .ok (.aload_n 0, 1) := by decide +kernel
theorem dX7_second_1 : decode cX7_second 1 = .ok (.getfield 42, 3) := by decide +kernel
theorem dX7_second_4 : decode cX7_second 4 = .ok (.ifCond .le 7, 3) := by decide +kernel
theorem dX7_second_7 : decode cX7_second 7 = .ok (.iconst 1, 1) := by decide +kernel
theorem dX7_second_8 : decode cX7_second 8 = .ok (.goto 4, 3) := by decide +kernel
theorem dX7_second_11 : decode cX7_second 11 = .ok (.iconst 0, 1) := by decide +kernel
theorem dX7_second_12 : decode cX7_second 12 = .ok (.istore_n 3, 1) := by decide +kernel
theorem dX7_second_13 : decode cX7_second 13 = .ok (.aload_n 0, 1) := by decide +kernel
theorem dX7_second_14 : decode cX7_second 14 = .ok (.getfield 51, 3) := by decide +kernel
theorem dX7_second_17 : decode cX7_second 17 = .ok (.istore 4, 2) := by decide +kernel
theorem dX7_second_19 : decode cX7_second 19 = .ok (.aload_n 0, 1) := by decide +kernel
theorem dX7_second_20 : decode cX7_second 20 = .ok (.iload_n 2, 1) := by decide +kernel
theorem dX7_second_21 : decode cX7_second 21 = .ok (.invokevirtual 83, 3) := by decide +kernel
theorem dX7_second_24 : decode cX7_second 24 = .ok (.aload_n 0, 1) := by decide +kernel
theorem dX7_second_25 : decode cX7_second 25 = .ok (.dup, 1) := by decide +kernel
theorem dX7_second_26 : decode cX7_second 26 = .ok (.getfield 51, 3) := by decide +kernel
theorem dX7_second_29 : decode cX7_second 29 = .ok (.iconst 1, 1) := by decide +kernel
theorem dX7_second_30 : decode cX7_second 30 = .ok (.iadd, 1) := by decide +kernel
theorem dX7_second_31 : decode cX7_second 31 = .ok (.putfield 51, 3) := by decide +kernel
theorem dX7_second_34 : decode cX7_second 34 = .ok (.aload_n 0, 1) := by decide +kernel
theorem dX7_second_35 : decode cX7_second 35 = .ok (.iconst 0, 1) := by decide +kernel
theorem dX7_second_36 : decode cX7_second 36 = .ok (.putfield 60, 3) := by decide +kernel
theorem dX7_second_39 : decode cX7_second 39 = .ok (.aload_n 0, 1) := by decide +kernel
theorem dX7_second_40 : decode cX7_second 40 = .ok (.getfield 42, 3) := by decide +kernel
theorem dX7_second_43 : decode cX7_second 43 = .ok (.ifCond .ne 13, 3) := by decide +kernel
theorem dX7_second_46 : decode cX7_second 46 = .ok (.iload_n 3, 1) := by decide +kernel
theorem dX7_second_47 : decode cX7_second 47 = .ok (.ifCond .eq 9, 3) := by decide +kernel
theorem dX7_second_50 : decode cX7_second 50 = .ok (.aload_n 0, 1) := by decide +kernel
theorem dX7_second_51 : decode cX7_second 51 = .ok (.iconst 1, 1) := by decide +kernel
theorem dX7_second_52 : decode cX7_second 52 = .ok (.putfield 66, 3) := by decide +kernel
theorem dX7_second_55 : decode cX7_second 55 = .ok (.return_, 1) := by decide +kernel
theorem dX7_second_56 : decode cX7_second 56 = .ok (.aload_n 0, 1) := by decide +kernel
theorem dX7_second_57 : decode cX7_second 57 = .ok (.aload_n 0, 1) := by decide +kernel
theorem dX7_second_58 : decode cX7_second 58 = .ok (.getfield 54, 3) := by decide +kernel
theorem dX7_second_61 : decode cX7_second 61 = .ok (.aload_n 0, 1) := by decide +kernel
theorem dX7_second_62 : decode cX7_second 62 = .ok (.getfield 42, 3) := by decide +kernel
theorem dX7_second_65 : decode cX7_second 65 = .ok (.invokestatic 87, 3) := by decide +kernel
theorem dX7_second_68 : decode cX7_second 68 = .ok (.putfield 54, 3) := by decide +kernel
theorem dX7_second_71 : decode cX7_second 71 = .ok (.aload_n 0, 1) := by decide +kernel
theorem dX7_second_72 : decode cX7_second 72 = .ok (.aload_n 1, 1) := by decide +kernel
theorem dX7_second_73 : decode cX7_second 73 = .ok (.invokevirtual 93, 3) := by decide +kernel
theorem dX7_second_76 : decode cX7_second 76 = .ok (.aload_n 0, 1) := by decide +kernel
theorem dX7_second_77 : decode cX7_second 77 = .ok (.aload_n 1, 1) := by decide +kernel
theorem dX7_second_78 : decode cX7_second 78 = .ok (.iload 4, 2) := by decide +kernel
theorem dX7_second_80 : decode cX7_second 80 = .ok (.invokevirtual 97, 3) := by decide +kernel
theorem dX7_second_83 : decode cX7_second 83 = .ok (.istore 5, 2) := by decide +kernel
theorem dX7_second_85 : decode cX7_second 85 = .ok (.aload_n 0, 1) := by decide +kernel
theorem dX7_second_86 : decode cX7_second 86 = .ok (.aload_n 0, 1) := by decide +kernel
theorem dX7_second_87 : decode cX7_second 87 = .ok (.getfield 63, 3) := by decide +kernel
theorem dX7_second_90 : decode cX7_second 90 = .ok (.iload 5, 2) := by decide +kernel
theorem dX7_second_92 : decode cX7_second 92 = .ok (.invokestatic 87, 3) := by decide +kernel
theorem dX7_second_95 : decode cX7_second 95 = .ok (.putfield 63, 3) := by decide +kernel
theorem dX7_second_98 : decode cX7_second 98 = .ok (.iload 5, 2) := by decide +kernel
theorem dX7_second_100 : decode cX7_second 100 = .ok (.aload_n 0, 1) := by decide +kernel
theorem dX7_second_101 : decode cX7_second 101 = .ok (.getfield 48, 3) := by decide +kernel
theorem dX7_second_104 : decode cX7_second 104 = .ok (.if_icmp .le 8, 3) := by decide +kernel
theorem dX7_second_107 : decode cX7_second 107 = .ok (.aload_n 0, 1) := by decide +kernel
theorem dX7_second_108 : decode cX7_second 108 = .ok (.iconst 2, 1) := by decide +kernel
theorem dX7_second_109 : decode cX7_second 109 = .ok (.putfield 66, 3) := by decide +kernel
theorem dX7_second_112 : decode cX7_second 112 = .ok (.return_, 1) := by decide +kernel
theorem dX7_step_0 : decode cX7_step 0 = .ok (.iload_n 1, 1) := by decide +kernel
theorem dX7_step_1 : decode cX7_step 1 = .ok (.iconst 1, 1) := by decide +kernel
theorem dX7_step_2 : decode cX7_step 2 = .ok (.if_icmp .ne 25, 3) := by decide +kernel
theorem dX7_step_5 : decode cX7_step 5 = .ok (.aload_n 0, 1) := by decide +kernel
theorem dX7_step_6 : decode cX7_step 6 = .ok (.getfield 42, 3) := by decide +kernel
theorem dX7_step_9 : decode cX7_step 9 = .ok (.bipush 8, 2) := by decide +kernel
theorem dX7_step_11 : decode cX7_step 11 = .ok (.if_icmp .ge 16, 3) := by decide +kernel
theorem dX7_step_14 : decode cX7_step 14 = .ok (.aload_n 0, 1) := by decide +kernel
theorem dX7_step_15 : decode cX7_step 15 = .ok (.dup, 1) := by decide +kernel
theorem dX7_step_16 : decode cX7_step 16 = .ok (.getfield 42, 3) := by decide +kernel
theorem dX7_step_19 : decode cX7_step 19 = .ok (.iconst 1, 1) := by decide +kernel
theorem dX7_step_20 : decode cX7_step 20 = .ok (.iadd, 1) := by decide +kernel
theorem dX7_step_21 : decode cX7_step 21 = .ok (.putfield 42, 3) := by decide +kernel
theorem dX7_step_24 : decode cX7_step 24 = .ok (.goto 77, 3) := by decide +kernel
theorem dX7_step_27 : decode cX7_step 27 = .ok (.iload_n 1, 1) := by decide +kernel
theorem dX7_step_28 : decode cX7_step 28 = .ok (.iconst 2, 1) := by decide +kernel
theorem dX7_step_29 : decode cX7_step 29 = .ok (.if_icmp .ne 23, 3) := by decide +kernel
theorem dX7_step_32 : decode cX7_step 32 = .ok (.aload_n 0, 1) := by decide +kernel
theorem dX7_step_33 : decode cX7_step 33 = .ok (.getfield 42, 3) := by decide +kernel
theorem dX7_step_36 : decode cX7_step 36 = .ok (.ifCond .le 16, 3) := by decide +kernel
theorem dX7_step_39 : decode cX7_step 39 = .ok (.aload_n 0, 1) := by decide +kernel
theorem dX7_step_40 : decode cX7_step 40 = .ok (.dup, 1) := by decide +kernel
theorem dX7_step_41 : decode cX7_step 41 = .ok (.getfield 42, 3) := by decide +kernel
theorem dX7_step_44 : decode cX7_step 44 = .ok (.iconst 1, 1) := by decide +kernel
theorem dX7_step_45 : decode cX7_step 45 = .ok (.isub, 1) := by decide +kernel
theorem dX7_step_46 : decode cX7_step 46 = .ok (.putfield 42, 3) := by decide +kernel
theorem dX7_step_49 : decode cX7_step 49 = .ok (.goto 52, 3) := by decide +kernel
theorem dX7_step_52 : decode cX7_step 52 = .ok (.iload_n 1, 1) := by decide +kernel
theorem dX7_step_53 : decode cX7_step 53 = .ok (.iconst 3, 1) := by decide +kernel
theorem dX7_step_54 : decode cX7_step 54 = .ok (.if_icmp .ne 23, 3) := by decide +kernel
theorem dX7_step_57 : decode cX7_step 57 = .ok (.aload_n 0, 1) := by decide +kernel
theorem dX7_step_58 : decode cX7_step 58 = .ok (.getfield 39, 3) := by decide +kernel
theorem dX7_step_61 : decode cX7_step 61 = .ok (.ifCond .le 16, 3) := by decide +kernel
theorem dX7_step_64 : decode cX7_step 64 = .ok (.aload_n 0, 1) := by decide +kernel
theorem dX7_step_65 : decode cX7_step 65 = .ok (.dup, 1) := by decide +kernel
theorem dX7_step_66 : decode cX7_step 66 = .ok (.getfield 39, 3) := by decide +kernel
theorem dX7_step_69 : decode cX7_step 69 = .ok (.iconst 1, 1) := by decide +kernel
theorem dX7_step_70 : decode cX7_step 70 = .ok (.isub, 1) := by decide +kernel
theorem dX7_step_71 : decode cX7_step 71 = .ok (.putfield 39, 3) := by decide +kernel
theorem dX7_step_74 : decode cX7_step 74 = .ok (.goto 27, 3) := by decide +kernel
theorem dX7_step_77 : decode cX7_step 77 = .ok (.iload_n 1, 1) := by decide +kernel
theorem dX7_step_78 : decode cX7_step 78 = .ok (.iconst 4, 1) := by decide +kernel
theorem dX7_step_79 : decode cX7_step 79 = .ok (.if_icmp .ne 22, 3) := by decide +kernel
theorem dX7_step_82 : decode cX7_step 82 = .ok (.aload_n 0, 1) := by decide +kernel
theorem dX7_step_83 : decode cX7_step 83 = .ok (.getfield 39, 3) := by decide +kernel
theorem dX7_step_86 : decode cX7_step 86 = .ok (.bipush 8, 2) := by decide +kernel
theorem dX7_step_88 : decode cX7_step 88 = .ok (.if_icmp .ge 13, 3) := by decide +kernel
theorem dX7_step_91 : decode cX7_step 91 = .ok (.aload_n 0, 1) := by decide +kernel
theorem dX7_step_92 : decode cX7_step 92 = .ok (.dup, 1) := by decide +kernel
theorem dX7_step_93 : decode cX7_step 93 = .ok (.getfield 39, 3) := by decide +kernel
theorem dX7_step_96 : decode cX7_step 96 = .ok (.iconst 1, 1) := by decide +kernel
theorem dX7_step_97 : decode cX7_step 97 = .ok (.iadd, 1) := by decide +kernel
theorem dX7_step_98 : decode cX7_step 98 = .ok (.putfield 39, 3) := by decide +kernel
theorem dX7_step_101 : decode cX7_step 101 = .ok (.return_, 1) := by decide +kernel
theorem dX7_reachOut_0 : decode cX7_reachOut 0 = .ok (.aload_n 0, 1) := by decide +kernel
theorem dX7_reachOut_1 : decode cX7_reachOut 1 = .ok (.getfield 42, 3) := by decide +kernel
theorem dX7_reachOut_4 : decode cX7_reachOut 4 = .ok (.iconst 1, 1) := by decide +kernel
theorem dX7_reachOut_5 : decode cX7_reachOut 5 = .ok (.if_icmp .ge 4, 3) := by decide +kernel
theorem dX7_reachOut_8 : decode cX7_reachOut 8 = .ok (.return_, 1) := by decide +kernel
theorem dX7_reachOut_9 : decode cX7_reachOut 9 = .ok (.aload_n 1, 1) := by decide +kernel
theorem dX7_reachOut_10 : decode cX7_reachOut 10 = .ok (.getfield 36, 3) := by decide +kernel
theorem dX7_reachOut_13 : decode cX7_reachOut 13 = .ok (.iconst 5, 1) := by decide +kernel
theorem dX7_reachOut_14 : decode cX7_reachOut 14 = .ok (.iaload, 1) := by decide +kernel
theorem dX7_reachOut_15 : decode cX7_reachOut 15 = .ok (.istore_n 2, 1) := by decide +kernel
theorem dX7_reachOut_16 : decode cX7_reachOut 16 = .ok (.iconst 0, 1) := by decide +kernel
theorem dX7_reachOut_17 : decode cX7_reachOut 17 = .ok (.istore_n 3, 1) := by decide +kernel
theorem dX7_reachOut_18 : decode cX7_reachOut 18 = .ok (.iload_n 3, 1) := by decide +kernel
theorem dX7_reachOut_19 : decode cX7_reachOut 19 = .ok (.aload_n 1, 1) := by decide +kernel
theorem dX7_reachOut_20 : decode cX7_reachOut 20 = .ok (.getfield 101, 3) := by decide +kernel
theorem dX7_reachOut_23 : decode cX7_reachOut 23 = .ok (.if_icmp .ge 38, 3) := by decide +kernel
theorem dX7_reachOut_26 : decode cX7_reachOut 26 = .ok (.aload_n 0, 1) := by decide +kernel
theorem dX7_reachOut_27 : decode cX7_reachOut 27 = .ok (.iload_n 3, 1) := by decide +kernel
theorem dX7_reachOut_28 : decode cX7_reachOut 28 = .ok (.invokevirtual 104, 3) := by decide +kernel
theorem dX7_reachOut_31 : decode cX7_reachOut 31 = .ok (.ifCond .eq 24, 3) := by decide +kernel
theorem dX7_reachOut_34 : decode cX7_reachOut 34 = .ok (.aload_n 0, 1) := by decide +kernel
theorem dX7_reachOut_35 : decode cX7_reachOut 35 = .ok (.iload_n 3, 1) := by decide +kernel
theorem dX7_reachOut_36 : decode cX7_reachOut 36 = .ok (.invokevirtual 108, 3) := by decide +kernel
theorem dX7_reachOut_39 : decode cX7_reachOut 39 = .ok (.iload_n 2, 1) := by decide +kernel
theorem dX7_reachOut_40 : decode cX7_reachOut 40 = .ok (.if_icmp .gt 15, 3) := by decide +kernel
theorem dX7_reachOut_43 : decode cX7_reachOut 43 = .ok (.aload_n 0, 1) := by decide +kernel
theorem dX7_reachOut_44 : decode cX7_reachOut 44 = .ok (.dup, 1) := by decide +kernel
theorem dX7_reachOut_45 : decode cX7_reachOut 45 = .ok (.getfield 57, 3) := by decide +kernel
theorem dX7_reachOut_48 : decode cX7_reachOut 48 = .ok (.iconst 1, 1) := by decide +kernel
theorem dX7_reachOut_49 : decode cX7_reachOut 49 = .ok (.iload_n 3, 1) := by decide +kernel
theorem dX7_reachOut_50 : decode cX7_reachOut 50 = .ok (.ishl, 1) := by decide +kernel
theorem dX7_reachOut_51 : decode cX7_reachOut 51 = .ok (.ior, 1) := by decide +kernel
theorem dX7_reachOut_52 : decode cX7_reachOut 52 = .ok (.putfield 57, 3) := by decide +kernel
theorem dX7_reachOut_55 : decode cX7_reachOut 55 = .ok (.iinc 3 1, 3) := by decide +kernel
theorem dX7_reachOut_58 : decode cX7_reachOut 58 = .ok (.goto (-40), 3) := by decide +kernel
theorem dX7_reachOut_61 : decode cX7_reachOut 61 = .ok (.return_, 1) := by decide +kernel
theorem dX7_theyAct_0 : decode cX7_theyAct 0 = .ok (.iconst 0, 1) := by decide +kernel
theorem dX7_theyAct_1 : decode cX7_theyAct 1 = .ok (.istore_n 3, 1) := by decide +kernel
theorem dX7_theyAct_2 : decode cX7_theyAct 2 = .ok (.iconst 0, 1) := by decide +kernel
theorem dX7_theyAct_3 : decode cX7_theyAct 3 = .ok (.istore 4, 2) := by decide +kernel
theorem dX7_theyAct_5 : decode cX7_theyAct 5 = .ok (.iload 4, 2) := by decide +kernel
theorem dX7_theyAct_7 : decode cX7_theyAct 7 = .ok (.aload_n 1, 1) := by decide +kernel
theorem dX7_theyAct_8 : decode cX7_theyAct 8 = .ok (.getfield 101, 3) := by decide +kernel
theorem dX7_theyAct_11 : decode cX7_theyAct 11 = .ok (.if_icmp .ge 123, 3) := by decide +kernel
theorem dX7_theyAct_14 : decode cX7_theyAct 14 = .ok (.aload_n 0, 1) := by decide +kernel
theorem dX7_theyAct_15 : decode cX7_theyAct 15 = .ok (.iload 4, 2) := by decide +kernel
theorem dX7_theyAct_17 : decode cX7_theyAct 17 = .ok (.invokevirtual 104, 3) := by decide +kernel
theorem dX7_theyAct_20 : decode cX7_theyAct 20 = .ok (.ifCond .ne 6, 3) := by decide +kernel
theorem dX7_theyAct_23 : decode cX7_theyAct 23 = .ok (.goto 105, 3) := by decide +kernel
theorem dX7_theyAct_26 : decode cX7_theyAct 26 = .ok (.aload_n 0, 1) := by decide +kernel
theorem dX7_theyAct_27 : decode cX7_theyAct 27 = .ok (.aload_n 1, 1) := by decide +kernel
theorem dX7_theyAct_28 : decode cX7_theyAct 28 = .ok (.iload 4, 2) := by decide +kernel
theorem dX7_theyAct_30 : decode cX7_theyAct 30 = .ok (.iload_n 2, 1) := by decide +kernel
theorem dX7_theyAct_31 : decode cX7_theyAct 31 = .ok (.invokevirtual 111, 3) := by decide +kernel
theorem dX7_theyAct_34 : decode cX7_theyAct 34 = .ok (.istore 5, 2) := by decide +kernel
theorem dX7_theyAct_36 : decode cX7_theyAct 36 = .ok (.iload 5, 2) := by decide +kernel
theorem dX7_theyAct_38 : decode cX7_theyAct 38 = .ok (.iconst 1, 1) := by decide +kernel
theorem dX7_theyAct_39 : decode cX7_theyAct 39 = .ok (.if_icmp .ne 12, 3) := by decide +kernel
theorem dX7_theyAct_42 : decode cX7_theyAct 42 = .ok (.aload_n 0, 1) := by decide +kernel
theorem dX7_theyAct_43 : decode cX7_theyAct 43 = .ok (.iload 4, 2) := by decide +kernel
theorem dX7_theyAct_45 : decode cX7_theyAct 45 = .ok (.invokevirtual 115, 3) := by decide +kernel
theorem dX7_theyAct_48 : decode cX7_theyAct 48 = .ok (.goto 80, 3) := by decide +kernel
theorem dX7_theyAct_51 : decode cX7_theyAct 51 = .ok (.iload 5, 2) := by decide +kernel
theorem dX7_theyAct_53 : decode cX7_theyAct 53 = .ok (.iconst 2, 1) := by decide +kernel
theorem dX7_theyAct_54 : decode cX7_theyAct 54 = .ok (.if_icmp .ne 27, 3) := by decide +kernel
theorem dX7_theyAct_57 : decode cX7_theyAct 57 = .ok (.aload_n 0, 1) := by decide +kernel
theorem dX7_theyAct_58 : decode cX7_theyAct 58 = .ok (.getfield 15, 3) := by decide +kernel
theorem dX7_theyAct_61 : decode cX7_theyAct 61 = .ok (.iload 4, 2) := by decide +kernel
theorem dX7_theyAct_63 : decode cX7_theyAct 63 = .ok (.bipush 8, 2) := by decide +kernel
theorem dX7_theyAct_65 : decode cX7_theyAct 65 = .ok (.aload_n 0, 1) := by decide +kernel
theorem dX7_theyAct_66 : decode cX7_theyAct 66 = .ok (.getfield 15, 3) := by decide +kernel
theorem dX7_theyAct_69 : decode cX7_theyAct 69 = .ok (.iload 4, 2) := by decide +kernel
theorem dX7_theyAct_71 : decode cX7_theyAct 71 = .ok (.iaload, 1) := by decide +kernel
theorem dX7_theyAct_72 : decode cX7_theyAct 72 = .ok (.iconst 1, 1) := by decide +kernel
theorem dX7_theyAct_73 : decode cX7_theyAct 73 = .ok (.iadd, 1) := by decide +kernel
theorem dX7_theyAct_74 : decode cX7_theyAct 74 = .ok (.invokestatic 118, 3) := by decide +kernel
theorem dX7_theyAct_77 : decode cX7_theyAct 77 = .ok (.iastore, 1) := by decide +kernel
theorem dX7_theyAct_78 : decode cX7_theyAct 78 = .ok (.goto 50, 3) := by decide +kernel
theorem dX7_theyAct_81 : decode cX7_theyAct 81 = .ok (.iload 5, 2) := by decide +kernel
theorem dX7_theyAct_83 : decode cX7_theyAct 83 = .ok (.iconst 3, 1) := by decide +kernel
theorem dX7_theyAct_84 : decode cX7_theyAct 84 = .ok (.if_icmp .ne 44, 3) := by decide +kernel
theorem dX7_theyAct_87 : decode cX7_theyAct 87 = .ok (.aload_n 0, 1) := by decide +kernel
theorem dX7_theyAct_88 : decode cX7_theyAct 88 = .ok (.getfield 42, 3) := by decide +kernel
theorem dX7_theyAct_91 : decode cX7_theyAct 91 = .ok (.iconst 1, 1) := by decide +kernel
theorem dX7_theyAct_92 : decode cX7_theyAct 92 = .ok (.if_icmp .lt 36, 3) := by decide +kernel
theorem dX7_theyAct_95 : decode cX7_theyAct 95 = .ok (.aload_n 0, 1) := by decide +kernel
theorem dX7_theyAct_96 : decode cX7_theyAct 96 = .ok (.iload 4, 2) := by decide +kernel
theorem dX7_theyAct_98 : decode cX7_theyAct 98 = .ok (.invokevirtual 108, 3) := by decide +kernel
theorem dX7_theyAct_101 : decode cX7_theyAct 101 = .ok (.iconst 1, 1) := by decide +kernel
theorem dX7_theyAct_102 : decode cX7_theyAct 102 = .ok (.if_icmp .gt 26, 3) := by decide +kernel
theorem dX7_theyAct_105 : decode cX7_theyAct 105 = .ok (.aload_n 0, 1) := by decide +kernel
theorem dX7_theyAct_106 : decode cX7_theyAct 106 = .ok (.dup, 1) := by decide +kernel
theorem dX7_theyAct_107 : decode cX7_theyAct 107 = .ok (.getfield 60, 3) := by decide +kernel
theorem dX7_theyAct_110 : decode cX7_theyAct 110 = .ok (.iconst 1, 1) := by decide +kernel
theorem dX7_theyAct_111 : decode cX7_theyAct 111 = .ok (.iload 4, 2) := by decide +kernel
theorem dX7_theyAct_113 : decode cX7_theyAct 113 = .ok (.ishl, 1) := by decide +kernel
theorem dX7_theyAct_114 : decode cX7_theyAct 114 = .ok (.ior, 1) := by decide +kernel
theorem dX7_theyAct_115 : decode cX7_theyAct 115 = .ok (.putfield 60, 3) := by decide +kernel
theorem dX7_theyAct_118 : decode cX7_theyAct 118 = .ok (.iload_n 3, 1) := by decide +kernel
theorem dX7_theyAct_119 : decode cX7_theyAct 119 = .ok (.aload_n 1, 1) := by decide +kernel
theorem dX7_theyAct_120 : decode cX7_theyAct 120 = .ok (.getfield 121, 3) := by decide +kernel
theorem dX7_theyAct_123 : decode cX7_theyAct 123 = .ok (.iload 4, 2) := by decide +kernel
theorem dX7_theyAct_125 : decode cX7_theyAct 125 = .ok (.iaload, 1) := by decide +kernel
theorem dX7_theyAct_126 : decode cX7_theyAct 126 = .ok (.iadd, 1) := by decide +kernel
theorem dX7_theyAct_127 : decode cX7_theyAct 127 = .ok (.istore_n 3, 1) := by decide +kernel
theorem dX7_theyAct_128 : decode cX7_theyAct 128 = .ok (.iinc 4 1, 3) := by decide +kernel
theorem dX7_theyAct_131 : decode cX7_theyAct 131 = .ok (.goto (-126), 3) := by decide +kernel
theorem dX7_theyAct_134 : decode cX7_theyAct 134 = .ok (.iload_n 3, 1) := by decide +kernel
theorem dX7_theyAct_135 : decode cX7_theyAct 135 = .ok (.ireturn, 1) := by decide +kernel
theorem dX7_choice_0 : decode cX7_choice 0 = .ok (.aload_n 0, 1) := by decide +kernel
theorem dX7_choice_1 : decode cX7_choice 1 = .ok (.iload_n 2, 1) := by decide +kernel
theorem dX7_choice_2 : decode cX7_choice 2 = .ok (.invokevirtual 108, 3) := by decide +kernel
theorem dX7_choice_5 : decode cX7_choice 5 = .ok (.istore 4, 2) := by decide +kernel
theorem dX7_choice_7 : decode cX7_choice 7 = .ok (.aload_n 1, 1) := by decide +kernel
theorem dX7_choice_8 : decode cX7_choice 8 = .ok (.getfield 124, 3) := by decide +kernel
theorem dX7_choice_11 : decode cX7_choice 11 = .ok (.invokevirtual 128, 3) := by decide +kernel
theorem dX7_choice_14 : decode cX7_choice 14 = .ok (.ifCond .eq 10, 3) := by decide +kernel
theorem dX7_choice_17 : decode cX7_choice 17 = .ok (.aload_n 0, 1) := by decide +kernel
theorem dX7_choice_18 : decode cX7_choice 18 = .ok (.iload 4, 2) := by decide +kernel
theorem dX7_choice_20 : decode cX7_choice 20 = .ok (.invokevirtual 134, 3) := by decide +kernel
theorem dX7_choice_23 : decode cX7_choice 23 = .ok (.ireturn, 1) := by decide +kernel
theorem dX7_choice_24 : decode cX7_choice 24 = .ok (.aload_n 0, 1) := by decide +kernel
theorem dX7_choice_25 : decode cX7_choice 25 = .ok (.getfield 20, 3) := by decide +kernel
theorem dX7_choice_28 : decode cX7_choice 28 = .ok (.iconst 0, 1) := by decide +kernel
theorem dX7_choice_29 : decode cX7_choice 29 = .ok (.iload 4, 2) := by decide +kernel
theorem dX7_choice_31 : decode cX7_choice 31 = .ok (.iastore, 1) := by decide +kernel
theorem dX7_choice_32 : decode cX7_choice 32 = .ok (.aload_n 0, 1) := by decide +kernel
theorem dX7_choice_33 : decode cX7_choice 33 = .ok (.getfield 20, 3) := by decide +kernel
theorem dX7_choice_36 : decode cX7_choice 36 = .ok (.iconst 1, 1) := by decide +kernel
theorem dX7_choice_37 : decode cX7_choice 37 = .ok (.aload_n 0, 1) := by decide +kernel
theorem dX7_choice_38 : decode cX7_choice 38 = .ok (.getfield 42, 3) := by decide +kernel
theorem dX7_choice_41 : decode cX7_choice 41 = .ok (.iastore, 1) := by decide +kernel
theorem dX7_choice_42 : decode cX7_choice 42 = .ok (.aload_n 0, 1) := by decide +kernel
theorem dX7_choice_43 : decode cX7_choice 43 = .ok (.getfield 20, 3) := by decide +kernel
theorem dX7_choice_46 : decode cX7_choice 46 = .ok (.iconst 2, 1) := by decide +kernel
theorem dX7_choice_47 : decode cX7_choice 47 = .ok (.iload_n 3, 1) := by decide +kernel
theorem dX7_choice_48 : decode cX7_choice 48 = .ok (.iastore, 1) := by decide +kernel
theorem dX7_choice_49 : decode cX7_choice 49 = .ok (.aload_n 0, 1) := by decide +kernel
theorem dX7_choice_50 : decode cX7_choice 50 = .ok (.getfield 20, 3) := by decide +kernel
theorem dX7_choice_53 : decode cX7_choice 53 = .ok (.iconst 3, 1) := by decide +kernel
theorem dX7_choice_54 : decode cX7_choice 54 = .ok (.aload_n 1, 1) := by decide +kernel
theorem dX7_choice_55 : decode cX7_choice 55 = .ok (.getfield 121, 3) := by decide +kernel
theorem dX7_choice_58 : decode cX7_choice 58 = .ok (.iload_n 2, 1) := by decide +kernel
theorem dX7_choice_59 : decode cX7_choice 59 = .ok (.iaload, 1) := by decide +kernel
theorem dX7_choice_60 : decode cX7_choice 60 = .ok (.iastore, 1) := by decide +kernel
theorem dX7_choice_61 : decode cX7_choice 61 = .ok (.aload_n 0, 1) := by decide +kernel
theorem dX7_choice_62 : decode cX7_choice 62 = .ok (.getfield 20, 3) := by decide +kernel
theorem dX7_choice_65 : decode cX7_choice 65 = .ok (.iconst 4, 1) := by decide +kernel
theorem dX7_choice_66 : decode cX7_choice 66 = .ok (.aload_n 0, 1) := by decide +kernel
theorem dX7_choice_67 : decode cX7_choice 67 = .ok (.getfield 35, 3) := by decide +kernel
theorem dX7_choice_70 : decode cX7_choice 70 = .ok (.invokestatic 137, 3) := by decide +kernel
theorem dX7_choice_73 : decode cX7_choice 73 = .ok (.iastore, 1) := by decide +kernel
theorem dX7_choice_74 : decode cX7_choice 74 = .ok (.aload_n 0, 1) := by decide +kernel
theorem dX7_choice_75 : decode cX7_choice 75 = .ok (.getfield 20, 3) := by decide +kernel
theorem dX7_choice_78 : decode cX7_choice 78 = .ok (.iconst 5, 1) := by decide +kernel
theorem dX7_choice_79 : decode cX7_choice 79 = .ok (.aload_n 1, 1) := by decide +kernel
theorem dX7_choice_80 : decode cX7_choice 80 = .ok (.getfield 124, 3) := by decide +kernel
theorem dX7_choice_83 : decode cX7_choice 83 = .ok (.getfield 142, 3) := by decide +kernel
theorem dX7_choice_86 : decode cX7_choice 86 = .ok (.ifCond .eq 15, 3) := by decide +kernel
theorem dX7_choice_89 : decode cX7_choice 89 = .ok (.aload_n 0, 1) := by decide +kernel
theorem dX7_choice_90 : decode cX7_choice 90 = .ok (.iload_n 2, 1) := by decide +kernel
theorem dX7_choice_91 : decode cX7_choice 91 = .ok (.aload_n 1, 1) := by decide +kernel
theorem dX7_choice_92 : decode cX7_choice 92 = .ok (.getfield 101, 3) := by decide +kernel
theorem dX7_choice_95 : decode cX7_choice 95 = .ok (.invokevirtual 146, 3) := by decide +kernel
theorem dX7_choice_98 : decode cX7_choice 98 = .ok (.goto 4, 3) := by decide +kernel
theorem dX7_choice_101 : decode cX7_choice 101 = .ok (.iconst 0, 1) := by decide +kernel
theorem dX7_choice_102 : decode cX7_choice 102 = .ok (.iastore, 1) := by decide +kernel
theorem dX7_choice_103 : decode cX7_choice 103 = .ok (.aload_n 1, 1) := by decide +kernel
theorem dX7_choice_104 : decode cX7_choice 104 = .ok (.getfield 124, 3) := by decide +kernel
theorem dX7_choice_107 : decode cX7_choice 107 = .ok (.aload_n 0, 1) := by decide +kernel
theorem dX7_choice_108 : decode cX7_choice 108 = .ok (.getfield 20, 3) := by decide +kernel
theorem dX7_choice_111 : decode cX7_choice 111 = .ok (.invokevirtual 149, 3) := by decide +kernel
theorem dX7_choice_114 : decode cX7_choice 114 = .ok (.iconst 4, 1) := by decide +kernel
theorem dX7_choice_115 : decode cX7_choice 115 = .ok (.irem, 1) := by decide +kernel
theorem dX7_choice_116 : decode cX7_choice 116 = .ok (.invokestatic 153, 3) := by decide +kernel
theorem dX7_choice_119 : decode cX7_choice 119 = .ok (.ireturn, 1) := by decide +kernel
theorem dX7_plainChoice_0 : decode cX7_plainChoice 0 = .ok (.aload_n 0, 1) := by decide +kernel
theorem dX7_plainChoice_1 : decode cX7_plainChoice 1 = .ok (.getfield 42, 3) := by decide +kernel
theorem dX7_plainChoice_4 : decode cX7_plainChoice 4 = .ok (.iconst 4, 1) := by decide +kernel
theorem dX7_plainChoice_5 : decode cX7_plainChoice 5 = .ok (.if_icmp .lt 14, 3) := by decide +kernel
theorem dX7_plainChoice_8 : decode cX7_plainChoice 8 = .ok (.iload_n 1, 1) := by decide +kernel
theorem dX7_plainChoice_9 : decode cX7_plainChoice 9 = .ok (.iconst 1, 1) := by decide +kernel
theorem dX7_plainChoice_10 : decode cX7_plainChoice 10 = .ok (.if_icmp .gt 7, 3) := by decide +kernel
theorem dX7_plainChoice_13 : decode cX7_plainChoice 13 = .ok (.iconst 3, 1) := by decide +kernel
theorem dX7_plainChoice_14 : decode cX7_plainChoice 14 = .ok (.goto 4, 3) := by decide +kernel
theorem dX7_plainChoice_17 : decode cX7_plainChoice 17 = .ok (.iconst 1, 1) := by decide +kernel
theorem dX7_plainChoice_18 : decode cX7_plainChoice 18 = .ok (.ireturn, 1) := by decide +kernel
theorem dX7_plainChoice_19 : decode cX7_plainChoice 19 = .ok (.iload_n 1, 1) := by decide +kernel
theorem dX7_plainChoice_20 : decode cX7_plainChoice 20 = .ok (.iconst 2, 1) := by decide +kernel
theorem dX7_plainChoice_21 : decode cX7_plainChoice 21 = .ok (.if_icmp .gt 7, 3) := by decide +kernel
theorem dX7_plainChoice_24 : decode cX7_plainChoice 24 = .ok (.iconst 2, 1) := by decide +kernel
theorem dX7_plainChoice_25 : decode cX7_plainChoice 25 = .ok (.goto 4, 3) := by decide +kernel
theorem dX7_plainChoice_28 : decode cX7_plainChoice 28 = .ok (.iconst 0, 1) := by decide +kernel
theorem dX7_plainChoice_29 : decode cX7_plainChoice 29 = .ok (.ireturn, 1) := by decide +kernel
theorem dX7_neighbours_0 : decode cX7_neighbours 0 = .ok (.iconst 0, 1) := by decide +kernel
theorem dX7_neighbours_1 : decode cX7_neighbours 1 = .ok (.istore_n 3, 1) := by decide +kernel
theorem dX7_neighbours_2 : decode cX7_neighbours 2 = .ok (.iconst 0, 1) := by decide +kernel
theorem dX7_neighbours_3 : decode cX7_neighbours 3 = .ok (.istore 4, 2) := by decide +kernel
theorem dX7_neighbours_5 : decode cX7_neighbours 5 = .ok (.iload 4, 2) := by decide +kernel
theorem dX7_neighbours_7 : decode cX7_neighbours 7 = .ok (.iload_n 2, 1) := by decide +kernel
theorem dX7_neighbours_8 : decode cX7_neighbours 8 = .ok (.if_icmp .ge 64, 3) := by decide +kernel
theorem dX7_neighbours_11 : decode cX7_neighbours 11 = .ok (.aload_n 0, 1) := by decide +kernel
theorem dX7_neighbours_12 : decode cX7_neighbours 12 = .ok (.getfield 9, 3) := by decide +kernel
theorem dX7_neighbours_15 : decode cX7_neighbours 15 = .ok (.iload 4, 2) := by decide +kernel
theorem dX7_neighbours_17 : decode cX7_neighbours 17 = .ok (.iaload, 1) := by decide +kernel
theorem dX7_neighbours_18 : decode cX7_neighbours 18 = .ok (.aload_n 0, 1) := by decide +kernel
theorem dX7_neighbours_19 : decode cX7_neighbours 19 = .ok (.getfield 9, 3) := by decide +kernel
theorem dX7_neighbours_22 : decode cX7_neighbours 22 = .ok (.iload_n 1, 1) := by decide +kernel
theorem dX7_neighbours_23 : decode cX7_neighbours 23 = .ok (.iaload, 1) := by decide +kernel
theorem dX7_neighbours_24 : decode cX7_neighbours 24 = .ok (.isub, 1) := by decide +kernel
theorem dX7_neighbours_25 : decode cX7_neighbours 25 = .ok (.invokestatic 153, 3) := by decide +kernel
theorem dX7_neighbours_28 : decode cX7_neighbours 28 = .ok (.aload_n 0, 1) := by decide +kernel
theorem dX7_neighbours_29 : decode cX7_neighbours 29 = .ok (.getfield 15, 3) := by decide +kernel
theorem dX7_neighbours_32 : decode cX7_neighbours 32 = .ok (.iload 4, 2) := by decide +kernel
theorem dX7_neighbours_34 : decode cX7_neighbours 34 = .ok (.iaload, 1) := by decide +kernel
theorem dX7_neighbours_35 : decode cX7_neighbours 35 = .ok (.aload_n 0, 1) := by decide +kernel
theorem dX7_neighbours_36 : decode cX7_neighbours 36 = .ok (.getfield 15, 3) := by decide +kernel
theorem dX7_neighbours_39 : decode cX7_neighbours 39 = .ok (.iload_n 1, 1) := by decide +kernel
theorem dX7_neighbours_40 : decode cX7_neighbours 40 = .ok (.iaload, 1) := by decide +kernel
theorem dX7_neighbours_41 : decode cX7_neighbours 41 = .ok (.isub, 1) := by decide +kernel
theorem dX7_neighbours_42 : decode cX7_neighbours 42 = .ok (.invokestatic 153, 3) := by decide +kernel
theorem dX7_neighbours_45 : decode cX7_neighbours 45 = .ok (.iadd, 1) := by decide +kernel
theorem dX7_neighbours_46 : decode cX7_neighbours 46 = .ok (.istore 5, 2) := by decide +kernel
theorem dX7_neighbours_48 : decode cX7_neighbours 48 = .ok (.aload_n 0, 1) := by decide +kernel
theorem dX7_neighbours_49 : decode cX7_neighbours 49 = .ok (.iload 4, 2) := by decide +kernel
theorem dX7_neighbours_51 : decode cX7_neighbours 51 = .ok (.invokevirtual 104, 3) := by decide +kernel
theorem dX7_neighbours_54 : decode cX7_neighbours 54 = .ok (.ifCond .eq 12, 3) := by decide +kernel
theorem dX7_neighbours_57 : decode cX7_neighbours 57 = .ok (.iload 5, 2) := by decide +kernel
theorem dX7_neighbours_59 : decode cX7_neighbours 59 = .ok (.iconst 1, 1) := by decide +kernel
theorem dX7_neighbours_60 : decode cX7_neighbours 60 = .ok (.if_icmp .ne 6, 3) := by decide +kernel
theorem dX7_neighbours_63 : decode cX7_neighbours 63 = .ok (.iinc 3 1, 3) := by decide +kernel
theorem dX7_neighbours_66 : decode cX7_neighbours 66 = .ok (.iinc 4 1, 3) := by decide +kernel
theorem dX7_neighbours_69 : decode cX7_neighbours 69 = .ok (.goto (-64), 3) := by decide +kernel
theorem dX7_neighbours_72 : decode cX7_neighbours 72 = .ok (.iload_n 3, 1) := by decide +kernel
theorem dX7_neighbours_73 : decode cX7_neighbours 73 = .ok (.ireturn, 1) := by decide +kernel
theorem dX7_comeNearer_0 : decode cX7_comeNearer 0 = .ok (.aload_n 0, 1) := by decide +kernel
theorem dX7_comeNearer_1 : decode cX7_comeNearer 1 = .ok (.getfield 9, 3) := by decide +kernel
theorem dX7_comeNearer_4 : decode cX7_comeNearer 4 = .ok (.iload_n 1, 1) := by decide +kernel
theorem dX7_comeNearer_5 : decode cX7_comeNearer 5 = .ok (.iaload, 1) := by decide +kernel
theorem dX7_comeNearer_6 : decode cX7_comeNearer 6 = .ok (.istore_n 2, 1) := by decide +kernel
theorem dX7_comeNearer_7 : decode cX7_comeNearer 7 = .ok (.aload_n 0, 1) := by decide +kernel
theorem dX7_comeNearer_8 : decode cX7_comeNearer 8 = .ok (.getfield 15, 3) := by decide +kernel
theorem dX7_comeNearer_11 : decode cX7_comeNearer 11 = .ok (.iload_n 1, 1) := by decide +kernel
theorem dX7_comeNearer_12 : decode cX7_comeNearer 12 = .ok (.iaload, 1) := by decide +kernel
theorem dX7_comeNearer_13 : decode cX7_comeNearer 13 = .ok (.istore_n 3, 1) := by decide +kernel
theorem dX7_comeNearer_14 : decode cX7_comeNearer 14 = .ok (.iload_n 2, 1) := by decide +kernel
theorem dX7_comeNearer_15 : decode cX7_comeNearer 15 = .ok (.aload_n 0, 1) := by decide +kernel
theorem dX7_comeNearer_16 : decode cX7_comeNearer 16 = .ok (.getfield 39, 3) := by decide +kernel
theorem dX7_comeNearer_19 : decode cX7_comeNearer 19 = .ok (.if_icmp .eq 22, 3) := by decide +kernel
theorem dX7_comeNearer_22 : decode cX7_comeNearer 22 = .ok (.iload_n 2, 1) := by decide +kernel
theorem dX7_comeNearer_23 : decode cX7_comeNearer 23 = .ok (.iload_n 2, 1) := by decide +kernel
theorem dX7_comeNearer_24 : decode cX7_comeNearer 24 = .ok (.aload_n 0, 1) := by decide +kernel
theorem dX7_comeNearer_25 : decode cX7_comeNearer 25 = .ok (.getfield 39, 3) := by decide +kernel
theorem dX7_comeNearer_28 : decode cX7_comeNearer 28 = .ok (.if_icmp .ge 7, 3) := by decide +kernel
theorem dX7_comeNearer_31 : decode cX7_comeNearer 31 = .ok (.iconst 1, 1) := by decide +kernel
theorem dX7_comeNearer_32 : decode cX7_comeNearer 32 = .ok (.goto 4, 3) := by decide +kernel
theorem dX7_comeNearer_35 : decode cX7_comeNearer 35 = .ok (.iconst (-1), 1) := by decide +kernel
theorem dX7_comeNearer_36 : decode cX7_comeNearer 36 = .ok (.iadd, 1) := by decide +kernel
theorem dX7_comeNearer_37 : decode cX7_comeNearer 37 = .ok (.istore_n 2, 1) := by decide +kernel
theorem dX7_comeNearer_38 : decode cX7_comeNearer 38 = .ok (.goto 27, 3) := by decide +kernel
theorem dX7_comeNearer_41 : decode cX7_comeNearer 41 = .ok (.iload_n 3, 1) := by decide +kernel
theorem dX7_comeNearer_42 : decode cX7_comeNearer 42 = .ok (.aload_n 0, 1) := by decide +kernel
theorem dX7_comeNearer_43 : decode cX7_comeNearer 43 = .ok (.getfield 42, 3) := by decide +kernel
theorem dX7_comeNearer_46 : decode cX7_comeNearer 46 = .ok (.if_icmp .eq 19, 3) := by decide +kernel
theorem dX7_comeNearer_49 : decode cX7_comeNearer 49 = .ok (.iload_n 3, 1) := by decide +kernel
theorem dX7_comeNearer_50 : decode cX7_comeNearer 50 = .ok (.iload_n 3, 1) := by decide +kernel
theorem dX7_comeNearer_51 : decode cX7_comeNearer 51 = .ok (.aload_n 0, 1) := by decide +kernel
theorem dX7_comeNearer_52 : decode cX7_comeNearer 52 = .ok (.getfield 42, 3) := by decide +kernel
theorem dX7_comeNearer_55 : decode cX7_comeNearer 55 = .ok (.if_icmp .ge 7, 3) := by decide +kernel
theorem dX7_comeNearer_58 : decode cX7_comeNearer 58 = .ok (.iconst 1, 1) := by decide +kernel
theorem dX7_comeNearer_59 : decode cX7_comeNearer 59 = .ok (.goto 4, 3) := by decide +kernel
theorem dX7_comeNearer_62 : decode cX7_comeNearer 62 = .ok (.iconst (-1), 1) := by decide +kernel
theorem dX7_comeNearer_63 : decode cX7_comeNearer 63 = .ok (.iadd, 1) := by decide +kernel
theorem dX7_comeNearer_64 : decode cX7_comeNearer 64 = .ok (.istore_n 3, 1) := by decide +kernel
theorem dX7_comeNearer_65 : decode cX7_comeNearer 65 = .ok (.iload_n 2, 1) := by decide +kernel
theorem dX7_comeNearer_66 : decode cX7_comeNearer 66 = .ok (.aload_n 0, 1) := by decide +kernel
theorem dX7_comeNearer_67 : decode cX7_comeNearer 67 = .ok (.getfield 39, 3) := by decide +kernel
theorem dX7_comeNearer_70 : decode cX7_comeNearer 70 = .ok (.if_icmp .ne 15, 3) := by decide +kernel
theorem dX7_comeNearer_73 : decode cX7_comeNearer 73 = .ok (.iload_n 3, 1) := by decide +kernel
theorem dX7_comeNearer_74 : decode cX7_comeNearer 74 = .ok (.aload_n 0, 1) := by decide +kernel
theorem dX7_comeNearer_75 : decode cX7_comeNearer 75 = .ok (.getfield 42, 3) := by decide +kernel
theorem dX7_comeNearer_78 : decode cX7_comeNearer 78 = .ok (.if_icmp .ne 7, 3) := by decide +kernel
theorem dX7_comeNearer_81 : decode cX7_comeNearer 81 = .ok (.iconst 1, 1) := by decide +kernel
theorem dX7_comeNearer_82 : decode cX7_comeNearer 82 = .ok (.goto 4, 3) := by decide +kernel
theorem dX7_comeNearer_85 : decode cX7_comeNearer 85 = .ok (.iconst 0, 1) := by decide +kernel
theorem dX7_comeNearer_86 : decode cX7_comeNearer 86 = .ok (.istore 4, 2) := by decide +kernel
theorem dX7_comeNearer_88 : decode cX7_comeNearer 88 = .ok (.iload_n 3, 1) := by decide +kernel
theorem dX7_comeNearer_89 : decode cX7_comeNearer 89 = .ok (.iconst 1, 1) := by decide +kernel
theorem dX7_comeNearer_90 : decode cX7_comeNearer 90 = .ok (.if_icmp .lt 22, 3) := by decide +kernel
theorem dX7_comeNearer_93 : decode cX7_comeNearer 93 = .ok (.iload 4, 2) := by decide +kernel
theorem dX7_comeNearer_95 : decode cX7_comeNearer 95 = .ok (.ifCond .ne 17, 3) := by decide +kernel
theorem dX7_comeNearer_98 : decode cX7_comeNearer 98 = .ok (.aload_n 0, 1) := by decide +kernel
theorem dX7_comeNearer_99 : decode cX7_comeNearer 99 = .ok (.getfield 9, 3) := by decide +kernel
theorem dX7_comeNearer_102 : decode cX7_comeNearer 102 = .ok (.iload_n 1, 1) := by decide +kernel
theorem dX7_comeNearer_103 : decode cX7_comeNearer 103 = .ok (.iload_n 2, 1) := by decide +kernel
theorem dX7_comeNearer_104 : decode cX7_comeNearer 104 = .ok (.iastore, 1) := by decide +kernel
theorem dX7_comeNearer_105 : decode cX7_comeNearer 105 = .ok (.aload_n 0, 1) := by decide +kernel
theorem dX7_comeNearer_106 : decode cX7_comeNearer 106 = .ok (.getfield 15, 3) := by decide +kernel
theorem dX7_comeNearer_109 : decode cX7_comeNearer 109 = .ok (.iload_n 1, 1) := by decide +kernel
theorem dX7_comeNearer_110 : decode cX7_comeNearer 110 = .ok (.iload_n 3, 1) := by decide +kernel
theorem dX7_comeNearer_111 : decode cX7_comeNearer 111 = .ok (.iastore, 1) := by decide +kernel
theorem dX7_comeNearer_112 : decode cX7_comeNearer 112 = .ok (.return_, 1) := by decide +kernel
theorem dX7_isInside_0 : decode cX7_isInside 0 = .ok (.aload_n 0, 1) := by decide +kernel
theorem dX7_isInside_1 : decode cX7_isInside 1 = .ok (.getfield 35, 3) := by decide +kernel
theorem dX7_isInside_4 : decode cX7_isInside 4 = .ok (.iload_n 1, 1) := by decide +kernel
theorem dX7_isInside_5 : decode cX7_isInside 5 = .ok (.ishr, 1) := by decide +kernel
theorem dX7_isInside_6 : decode cX7_isInside 6 = .ok (.iconst 1, 1) := by decide +kernel
theorem dX7_isInside_7 : decode cX7_isInside 7 = .ok (.iand, 1) := by decide +kernel
theorem dX7_isInside_8 : decode cX7_isInside 8 = .ok (.iconst 1, 1) := by decide +kernel
theorem dX7_isInside_9 : decode cX7_isInside 9 = .ok (.if_icmp .ne 7, 3) := by decide +kernel
theorem dX7_isInside_12 : decode cX7_isInside 12 = .ok (.iconst 1, 1) := by decide +kernel
theorem dX7_isInside_13 : decode cX7_isInside 13 = .ok (.goto 4, 3) := by decide +kernel
theorem dX7_isInside_16 : decode cX7_isInside 16 = .ok (.iconst 0, 1) := by decide +kernel
theorem dX7_isInside_17 : decode cX7_isInside 17 = .ok (.ireturn, 1) := by decide +kernel
theorem dX7_farFromRaider_0 : decode cX7_farFromRaider 0 = .ok (.aload_n 0, 1) := by decide +kernel
theorem dX7_farFromRaider_1 : decode cX7_farFromRaider 1 = .ok (.getfield 9, 3) := by decide +kernel
theorem dX7_farFromRaider_4 : decode cX7_farFromRaider 4 = .ok (.iload_n 1, 1) := by decide +kernel
theorem dX7_farFromRaider_5 : decode cX7_farFromRaider 5 = .ok (.iaload, 1) := by decide +kernel
theorem dX7_farFromRaider_6 : decode cX7_farFromRaider 6 = .ok (.aload_n 0, 1) := by decide +kernel
theorem dX7_farFromRaider_7 : decode cX7_farFromRaider 7 = .ok (.getfield 39, 3) := by decide +kernel
theorem dX7_farFromRaider_10 : decode cX7_farFromRaider 10 = .ok (.isub, 1) := by decide +kernel
theorem dX7_farFromRaider_11 : decode cX7_farFromRaider 11 = .ok (.invokestatic 153, 3) := by decide +kernel
theorem dX7_farFromRaider_14 : decode cX7_farFromRaider 14 = .ok (.aload_n 0, 1) := by decide +kernel
theorem dX7_farFromRaider_15 : decode cX7_farFromRaider 15 = .ok (.getfield 15, 3) := by decide +kernel
theorem dX7_farFromRaider_18 : decode cX7_farFromRaider 18 = .ok (.iload_n 1, 1) := by decide +kernel
theorem dX7_farFromRaider_19 : decode cX7_farFromRaider 19 = .ok (.iaload, 1) := by decide +kernel
theorem dX7_farFromRaider_20 : decode cX7_farFromRaider 20 = .ok (.aload_n 0, 1) := by decide +kernel
theorem dX7_farFromRaider_21 : decode cX7_farFromRaider 21 = .ok (.getfield 42, 3) := by decide +kernel
theorem dX7_farFromRaider_24 : decode cX7_farFromRaider 24 = .ok (.isub, 1) := by decide +kernel
theorem dX7_farFromRaider_25 : decode cX7_farFromRaider 25 = .ok (.invokestatic 153, 3) := by decide +kernel
theorem dX7_farFromRaider_28 : decode cX7_farFromRaider 28 = .ok (.iadd, 1) := by decide +kernel
theorem dX7_farFromRaider_29 : decode cX7_farFromRaider 29 = .ok (.ireturn, 1) := by decide +kernel
theorem dX7_cellOf_0 : decode cX7_cellOf 0 = .ok (.iload_n 1, 1) := by decide +kernel
theorem dX7_cellOf_1 : decode cX7_cellOf 1 = .ok (.ifCond .ge 18, 3) := by decide +kernel
theorem dX7_cellOf_4 : decode cX7_cellOf 4 = .ok (.bipush 10, 2) := by decide +kernel
theorem dX7_cellOf_6 : decode cX7_cellOf 6 = .ok (.aload_n 0, 1) := by decide +kernel
theorem dX7_cellOf_7 : decode cX7_cellOf 7 = .ok (.getfield 42, 3) := by decide +kernel
theorem dX7_cellOf_10 : decode cX7_cellOf 10 = .ok (.imul, 1) := by decide +kernel
theorem dX7_cellOf_11 : decode cX7_cellOf 11 = .ok (.aload_n 0, 1) := by decide +kernel
theorem dX7_cellOf_12 : decode cX7_cellOf 12 = .ok (.getfield 39, 3) := by decide +kernel
theorem dX7_cellOf_15 : decode cX7_cellOf 15 = .ok (.iadd, 1) := by decide +kernel
theorem dX7_cellOf_16 : decode cX7_cellOf 16 = .ok (.goto 19, 3) := by decide +kernel
theorem dX7_cellOf_19 : decode cX7_cellOf 19 = .ok (.bipush 10, 2) := by decide +kernel
theorem dX7_cellOf_21 : decode cX7_cellOf 21 = .ok (.aload_n 0, 1) := by decide +kernel
theorem dX7_cellOf_22 : decode cX7_cellOf 22 = .ok (.getfield 15, 3) := by decide +kernel
theorem dX7_cellOf_25 : decode cX7_cellOf 25 = .ok (.iload_n 1, 1) := by decide +kernel
theorem dX7_cellOf_26 : decode cX7_cellOf 26 = .ok (.iaload, 1) := by decide +kernel
theorem dX7_cellOf_27 : decode cX7_cellOf 27 = .ok (.imul, 1) := by decide +kernel
theorem dX7_cellOf_28 : decode cX7_cellOf 28 = .ok (.aload_n 0, 1) := by decide +kernel
theorem dX7_cellOf_29 : decode cX7_cellOf 29 = .ok (.getfield 9, 3) := by decide +kernel
theorem dX7_cellOf_32 : decode cX7_cellOf 32 = .ok (.iload_n 1, 1) := by decide +kernel
theorem dX7_cellOf_33 : decode cX7_cellOf 33 = .ok (.iaload, 1) := by decide +kernel
theorem dX7_cellOf_34 : decode cX7_cellOf 34 = .ok (.iadd, 1) := by decide +kernel
theorem dX7_cellOf_35 : decode cX7_cellOf 35 = .ok (.ireturn, 1) := by decide +kernel
theorem dX7_points_0 : decode cX7_points 0 = .ok (.aload_n 0, 1) := by decide +kernel
theorem dX7_points_1 : decode cX7_points 1 = .ok (.getfield 66, 3) := by decide +kernel
theorem dX7_points_4 : decode cX7_points 4 = .ok (.iconst 1, 1) := by decide +kernel
theorem dX7_points_5 : decode cX7_points 5 = .ok (.if_icmp .ne 13, 3) := by decide +kernel
theorem dX7_points_8 : decode cX7_points 8 = .ok (.aload_n 0, 1) := by decide +kernel
theorem dX7_points_9 : decode cX7_points 9 = .ok (.getfield 57, 3) := by decide +kernel
theorem dX7_points_12 : decode cX7_points 12 = .ok (.invokestatic 137, 3) := by decide +kernel
theorem dX7_points_15 : decode cX7_points 15 = .ok (.goto 4, 3) := by decide +kernel
theorem dX7_points_18 : decode cX7_points 18 = .ok (.iconst 0, 1) := by decide +kernel
theorem dX7_points_19 : decode cX7_points 19 = .ok (.ireturn, 1) := by decide +kernel
theorem dX7_pointsForThem_0 : decode cX7_pointsForThem 0 = .ok (.aload_n 0, 1) := by decide +kernel
theorem dX7_pointsForThem_1 : decode cX7_pointsForThem 1 = .ok (.getfield 66, 3) := by decide +kernel
theorem dX7_pointsForThem_4 : decode cX7_pointsForThem 4 = .ok (.iconst 1, 1) := by decide +kernel
theorem dX7_pointsForThem_5 : decode cX7_pointsForThem 5 = .ok (.if_icmp .ne 30, 3) := by decide +kernel
theorem dX7_pointsForThem_8 : decode cX7_pointsForThem 8 = .ok (.aload_n 0, 1) := by decide +kernel
theorem dX7_pointsForThem_9 : decode cX7_pointsForThem 9 = .ok (.getfield 57, 3) := by decide +kernel
theorem dX7_pointsForThem_12 : decode cX7_pointsForThem 12 = .ok (.ifCond .ne 21, 3) := by decide +kernel
theorem dX7_pointsForThem_15 : decode cX7_pointsForThem 15 = .ok (.aload_n 0, 1) := by decide +kernel
theorem dX7_pointsForThem_16 : decode cX7_pointsForThem 16 = .ok (.getfield 54, 3) := by decide +kernel
theorem dX7_pointsForThem_19 : decode cX7_pointsForThem 19 = .ok (.aload_n 1, 1) := by decide +kernel
theorem dX7_pointsForThem_20 : decode cX7_pointsForThem 20 = .ok (.getfield 36, 3) := by decide +kernel
theorem dX7_pointsForThem_23 : decode cX7_pointsForThem 23 = .ok (.bipush 8, 2) := by decide +kernel
theorem dX7_pointsForThem_25 : decode cX7_pointsForThem 25 = .ok (.iaload, 1) := by decide +kernel
theorem dX7_pointsForThem_26 : decode cX7_pointsForThem 26 = .ok (.if_icmp .ge 7, 3) := by decide +kernel
theorem dX7_pointsForThem_29 : decode cX7_pointsForThem 29 = .ok (.iconst 1, 1) := by decide +kernel
theorem dX7_pointsForThem_30 : decode cX7_pointsForThem 30 = .ok (.goto 4, 3) := by decide +kernel
theorem dX7_pointsForThem_33 : decode cX7_pointsForThem 33 = .ok (.iconst 0, 1) := by decide +kernel
theorem dX7_pointsForThem_34 : decode cX7_pointsForThem 34 = .ok (.ireturn, 1) := by decide +kernel
theorem dX7_pointsForThem_35 : decode cX7_pointsForThem 35 = .ok (.aload_n 1, 1) := by decide +kernel
theorem dX7_pointsForThem_36 : decode cX7_pointsForThem 36 = .ok (.invokevirtual 156, 3) := by decide +kernel
theorem dX7_pointsForThem_39 : decode cX7_pointsForThem 39 = .ok (.ireturn, 1) := by decide +kernel
theorem dX8_init_0 : decode cX8_init 0 = .ok (.aload_n 0, 1) := by decide +kernel
theorem dX8_init_1 : decode cX8_init 1 = .ok (.invokespecial 3, 3) := by decide +kernel
theorem dX8_init_4 : decode cX8_init 4 = .ok (.aload_n 0, 1) := by decide +kernel
theorem dX8_init_5 : decode cX8_init 5 = .ok (.bipush 6, 2) := by decide +kernel
theorem dX8_init_7 : decode cX8_init 7 = .ok (.anewarray 9, 3) := by decide +kernel
theorem dX8_init_10 : decode cX8_init 10 = .ok (.putfield 11, 3) := by decide +kernel
theorem dX8_init_13 : decode cX8_init 13 = .ok (.aload_n 0, 1) := by decide +kernel
theorem dX8_init_14 : decode cX8_init 14 = .ok (.iconst 5, 1) := by decide +kernel
theorem dX8_init_15 : decode cX8_init 15 = .ok (.newarray .int, 2) := by decide +kernel
theorem dX8_init_17 : decode cX8_init 17 = .ok (.putfield 17, 3) := by decide +kernel
theorem dX8_init_20 : decode cX8_init 20 = .ok (.aload_n 0, 1) := by decide +kernel
theorem dX8_init_21 : decode cX8_init 21 = .ok (.iconst 5, 1) := by decide +kernel
theorem dX8_init_22 : decode cX8_init 22 = .ok (.newarray .int, 2) := by decide +kernel
theorem dX8_init_24 : decode cX8_init 24 = .ok (.putfield 21, 3) := by decide +kernel
theorem dX8_init_27 : decode cX8_init 27 = .ok (.iconst 0, 1) := by decide +kernel
theorem dX8_init_28 : decode cX8_init 28 = .ok (.istore_n 1, 1) := by decide +kernel
theorem dX8_init_29 : decode cX8_init 29 = .ok (.iload_n 1, 1) := by decide +kernel
theorem dX8_init_30 : decode cX8_init 30 = .ok (.aload_n 0, 1) := by decide +kernel
theorem dX8_init_31 : decode cX8_init 31 = .ok (.getfield 11, 3) := by decide +kernel
theorem dX8_init_34 : decode cX8_init 34 = .ok (.arraylength, 1) := by decide +kernel
theorem dX8_init_35 : decode cX8_init 35 = .ok (.if_icmp .ge 22, 3) := by decide +kernel
theorem dX8_init_38 : decode cX8_init 38 = .ok (.aload_n 0, 1) := by decide +kernel
theorem dX8_init_39 : decode cX8_init 39 = .ok (.getfield 11, 3) := by decide +kernel
theorem dX8_init_42 : decode cX8_init 42 = .ok (.iload_n 1, 1) := by decide +kernel
theorem dX8_init_43 : decode cX8_init 43 = .ok (.new 9, 3) := by decide +kernel
theorem dX8_init_46 : decode cX8_init 46 = .ok (.dup, 1) := by decide +kernel
theorem dX8_init_47 : decode cX8_init 47 = .ok (.invokespecial 24, 3) := by decide +kernel
theorem dX8_init_50 : decode cX8_init 50 = .ok (.aastore, 1) := by decide +kernel
theorem dX8_init_51 : decode cX8_init 51 = .ok (.iinc 1 1, 3) := by decide +kernel
theorem dX8_init_54 : decode cX8_init 54 = .ok (.goto (-25), 3) := by decide +kernel
theorem dX8_init_57 : decode cX8_init 57 = .ok (.return_, 1) := by decide +kernel
theorem dX8_findBest_0 : decode cX8_findBest 0 = .ok (.aload_n 0, 1) := by decide +kernel
theorem dX8_findBest_1 : decode cX8_findBest 1 = .ok (.aload_n 1, 1) := by decide +kernel
theorem dX8_findBest_2 : decode cX8_findBest 2 = .ok (.iconst (-1), 1) := by decide +kernel
theorem dX8_findBest_3 : decode cX8_findBest 3 = .ok (.invokevirtual 25, 3) := by decide +kernel
theorem dX8_findBest_6 : decode cX8_findBest 6 = .ok (.ifCond .eq 11, 3) := by decide +kernel
theorem dX8_findBest_9 : decode cX8_findBest 9 = .ok (.aload_n 0, 1) := by decide +kernel
theorem dX8_findBest_10 : decode cX8_findBest 10 = .ok (.getfield 29, 3) := by decide +kernel
theorem dX8_findBest_13 : decode cX8_findBest 13 = .ok (.iload_n 2, 1) := by decide +kernel
theorem dX8_findBest_14 : decode cX8_findBest 14 = .ok (.if_icmp .eq 16, 3) := by decide +kernel
theorem dX8_findBest_17 : decode cX8_findBest 17 = .ok (.aload_n 0, 1) := by decide +kernel
theorem dX8_findBest_18 : decode cX8_findBest 18 = .ok (.aload_n 1, 1) := by decide +kernel
theorem dX8_findBest_19 : decode cX8_findBest 19 = .ok (.iload_n 2, 1) := by decide +kernel
theorem dX8_findBest_20 : decode cX8_findBest 20 = .ok (.iconst (-1), 1) := by decide +kernel
theorem dX8_findBest_21 : decode cX8_findBest 21 = .ok (.invokevirtual 33, 3) := by decide +kernel
theorem dX8_findBest_24 : decode cX8_findBest 24 = .ok (.aload_n 0, 1) := by decide +kernel
theorem dX8_findBest_25 : decode cX8_findBest 25 = .ok (.aload_n 1, 1) := by decide +kernel
theorem dX8_findBest_26 : decode cX8_findBest 26 = .ok (.iconst 0, 1) := by decide +kernel
theorem dX8_findBest_27 : decode cX8_findBest 27 = .ok (.invokevirtual 37, 3) := by decide +kernel
theorem dX8_findBest_30 : decode cX8_findBest 30 = .ok (.return_, 1) := by decide +kernel
theorem dX8_findTouch_0 : decode cX8_findTouch 0 = .ok (.aload_n 0, 1) := by decide +kernel
theorem dX8_findTouch_1 : decode cX8_findTouch 1 = .ok (.aload_n 1, 1) := by decide +kernel
theorem dX8_findTouch_2 : decode cX8_findTouch 2 = .ok (.iload_n 2, 1) := by decide +kernel
theorem dX8_findTouch_3 : decode cX8_findTouch 3 = .ok (.invokevirtual 25, 3) := by decide +kernel
theorem dX8_findTouch_6 : decode cX8_findTouch 6 = .ok (.ifCond .ne 41, 3) := by decide +kernel
theorem dX8_findTouch_9 : decode cX8_findTouch 9 = .ok (.aload_n 0, 1) := by decide +kernel
theorem dX8_findTouch_10 : decode cX8_findTouch 10 = .ok (.iconst 0, 1) := by decide +kernel
theorem dX8_findTouch_11 : decode cX8_findTouch 11 = .ok (.putfield 41, 3) := by decide +kernel
theorem dX8_findTouch_14 : decode cX8_findTouch 14 = .ok (.iconst 1, 1) := by decide +kernel
theorem dX8_findTouch_15 : decode cX8_findTouch 15 = .ok (.istore_n 3, 1) := by decide +kernel
theorem dX8_findTouch_16 : decode cX8_findTouch 16 = .ok (.iload_n 3, 1) := by decide +kernel
theorem dX8_findTouch_17 : decode cX8_findTouch 17 = .ok (.iconst 5, 1) := by decide +kernel
theorem dX8_findTouch_18 : decode cX8_findTouch 18 = .ok (.if_icmp .gt 29, 3) := by decide +kernel
theorem dX8_findTouch_21 : decode cX8_findTouch 21 = .ok (.aload_n 0, 1) := by decide +kernel
theorem dX8_findTouch_22 : decode cX8_findTouch 22 = .ok (.getfield 41, 3) := by decide +kernel
theorem dX8_findTouch_25 : decode cX8_findTouch 25 = .ok (.ifCond .ne 22, 3) := by decide +kernel
theorem dX8_findTouch_28 : decode cX8_findTouch 28 = .ok (.aload_n 0, 1) := by decide +kernel
theorem dX8_findTouch_29 : decode cX8_findTouch 29 = .ok (.aload_n 1, 1) := by decide +kernel
theorem dX8_findTouch_30 : decode cX8_findTouch 30 = .ok (.iload_n 3, 1) := by decide +kernel
theorem dX8_findTouch_31 : decode cX8_findTouch 31 = .ok (.iload_n 2, 1) := by decide +kernel
theorem dX8_findTouch_32 : decode cX8_findTouch 32 = .ok (.invokevirtual 33, 3) := by decide +kernel
theorem dX8_findTouch_35 : decode cX8_findTouch 35 = .ok (.aload_n 0, 1) := by decide +kernel
theorem dX8_findTouch_36 : decode cX8_findTouch 36 = .ok (.aload_n 1, 1) := by decide +kernel
theorem dX8_findTouch_37 : decode cX8_findTouch 37 = .ok (.iconst 0, 1) := by decide +kernel
theorem dX8_findTouch_38 : decode cX8_findTouch 38 = .ok (.invokevirtual 37, 3) := by decide +kernel
theorem dX8_findTouch_41 : decode cX8_findTouch 41 = .ok (.iinc 3 1, 3) := by decide +kernel
theorem dX8_findTouch_44 : decode cX8_findTouch 44 = .ok (.goto (-28), 3) := by decide +kernel
theorem dX8_findTouch_47 : decode cX8_findTouch 47 = .ok (.aload_n 0, 1) := by decide +kernel
theorem dX8_findTouch_48 : decode cX8_findTouch 48 = .ok (.getfield 41, 3) := by decide +kernel
theorem dX8_findTouch_51 : decode cX8_findTouch 51 = .ok (.iconst 1, 1) := by decide +kernel
theorem dX8_findTouch_52 : decode cX8_findTouch 52 = .ok (.if_icmp .ne 10, 3) := by decide +kernel
theorem dX8_findTouch_55 : decode cX8_findTouch 55 = .ok (.aload_n 0, 1) := by decide +kernel
theorem dX8_findTouch_56 : decode cX8_findTouch 56 = .ok (.getfield 29, 3) := by decide +kernel
theorem dX8_findTouch_59 : decode cX8_findTouch 59 = .ok (.goto 4, 3) := by decide +kernel
theorem dX8_findTouch_62 : decode cX8_findTouch 62 = .ok (.iconst 0, 1) := by decide +kernel
theorem dX8_findTouch_63 : decode cX8_findTouch 63 = .ok (.ireturn, 1) := by decide +kernel
theorem dX8_isFound_0 : decode cX8_isFound 0 = .ok (.aload_n 0, 1) := by decide +kernel
theorem dX8_isFound_1 : decode cX8_isFound 1 = .ok (.getfield 44, 3) := by decide +kernel
theorem dX8_isFound_4 : decode cX8_isFound 4 = .ok (.ifCond .eq 26, 3) := by decide +kernel
theorem dX8_isFound_7 : decode cX8_isFound 7 = .ok (.aload_n 0, 1) := by decide +kernel
theorem dX8_isFound_8 : decode cX8_isFound 8 = .ok (.getfield 48, 3) := by decide +kernel
theorem dX8_isFound_11 : decode cX8_isFound 11 = .ok (.aload_n 1, 1) := by decide +kernel
theorem dX8_isFound_12 : decode cX8_isFound 12 = .ok (.getfield 51, 3) := by decide +kernel
theorem dX8_isFound_15 : decode cX8_isFound 15 = .ok (.if_icmp .ne 15, 3) := by decide +kernel
theorem dX8_isFound_18 : decode cX8_isFound 18 = .ok (.aload_n 0, 1) := by decide +kernel
theorem dX8_isFound_19 : decode cX8_isFound 19 = .ok (.getfield 54, 3) := by decide +kernel
theorem dX8_isFound_22 : decode cX8_isFound 22 = .ok (.iload_n 2, 1) := by decide +kernel
theorem dX8_isFound_23 : decode cX8_isFound 23 = .ok (.if_icmp .ne 7, 3) := by decide +kernel
theorem dX8_isFound_26 : decode cX8_isFound 26 = .ok (.iconst 1, 1) := by decide +kernel
theorem dX8_isFound_27 : decode cX8_isFound 27 = .ok (.goto 4, 3) := by decide +kernel
theorem dX8_isFound_30 : decode cX8_isFound 30 = .ok (.iconst 0, 1) := by decide +kernel
theorem dX8_isFound_31 : decode cX8_isFound 31 = .ok (.ireturn, 1) := by decide +kernel
theorem dX8_prepare_0 : decode cX8_prepare 0 = .ok (.aload_n 0, 1) := by decide +kernel
theorem dX8_prepare_1 : decode cX8_prepare 1 = .ok (.iconst 1, 1) := by decide +kernel
theorem dX8_prepare_2 : decode cX8_prepare 2 = .ok (.putfield 44, 3) := by decide +kernel
theorem dX8_prepare_5 : decode cX8_prepare 5 = .ok (.aload_n 0, 1) := by decide +kernel
theorem dX8_prepare_6 : decode cX8_prepare 6 = .ok (.aload_n 1, 1) := by decide +kernel
theorem dX8_prepare_7 : decode cX8_prepare 7 = .ok (.getfield 51, 3) := by decide +kernel
theorem dX8_prepare_10 : decode cX8_prepare 10 = .ok (.putfield 48, 3) := by decide +kernel
theorem dX8_prepare_13 : decode cX8_prepare 13 = .ok (.aload_n 0, 1) := by decide +kernel
theorem dX8_prepare_14 : decode cX8_prepare 14 = .ok (.iload_n 3, 1) := by decide +kernel
theorem dX8_prepare_15 : decode cX8_prepare 15 = .ok (.putfield 54, 3) := by decide +kernel
theorem dX8_prepare_18 : decode cX8_prepare 18 = .ok (.aload_n 0, 1) := by decide +kernel
theorem dX8_prepare_19 : decode cX8_prepare 19 = .ok (.iload_n 2, 1) := by decide +kernel
theorem dX8_prepare_20 : decode cX8_prepare 20 = .ok (.putfield 29, 3) := by decide +kernel
theorem dX8_prepare_23 : decode cX8_prepare 23 = .ok (.aload_n 0, 1) := by decide +kernel
theorem dX8_prepare_24 : decode cX8_prepare 24 = .ok (.iload_n 3, 1) := by decide +kernel
theorem dX8_prepare_25 : decode cX8_prepare 25 = .ok (.iconst (-1), 1) := by decide +kernel
theorem dX8_prepare_26 : decode cX8_prepare 26 = .ok (.if_icmp .ne 9, 3) := by decide +kernel
theorem dX8_prepare_29 : decode cX8_prepare 29 = .ok (.sipush (-1000), 3) := by decide +kernel
theorem dX8_prepare_32 : decode cX8_prepare 32 = .ok (.goto 4, 3) := by decide +kernel
theorem dX8_prepare_35 : decode cX8_prepare 35 = .ok (.iconst 0, 1) := by decide +kernel
theorem dX8_prepare_36 : decode cX8_prepare 36 = .ok (.putfield 41, 3) := by decide +kernel
theorem dX8_prepare_39 : decode cX8_prepare 39 = .ok (.aload_n 0, 1) := by decide +kernel
theorem dX8_prepare_40 : decode cX8_prepare 40 = .ok (.iload_n 3, 1) := by decide +kernel
theorem dX8_prepare_41 : decode cX8_prepare 41 = .ok (.iconst (-1), 1) := by decide +kernel
theorem dX8_prepare_42 : decode cX8_prepare 42 = .ok (.if_icmp .ne 13, 3) := by decide +kernel
theorem dX8_prepare_45 : decode cX8_prepare 45 = .ok (.aload_n 1, 1) := by decide +kernel
theorem dX8_prepare_46 : decode cX8_prepare 46 = .ok (.getfield 57, 3) := by decide +kernel
theorem dX8_prepare_49 : decode cX8_prepare 49 = .ok (.invokestatic 60, 3) := by decide +kernel
theorem dX8_prepare_52 : decode cX8_prepare 52 = .ok (.goto 4, 3) := by decide +kernel
theorem dX8_prepare_55 : decode cX8_prepare 55 = .ok (.iconst 1, 1) := by decide +kernel
theorem dX8_prepare_56 : decode cX8_prepare 56 = .ok (.putfield 66, 3) := by decide +kernel
theorem dX8_prepare_59 : decode cX8_prepare 59 = .ok (.aload_n 0, 1) := by decide +kernel
theorem dX8_prepare_60 : decode cX8_prepare 60 = .ok (.getfield 11, 3) := by decide +kernel
theorem dX8_prepare_63 : decode cX8_prepare 63 = .ok (.iconst 0, 1) := by decide +kernel
theorem dX8_prepare_64 : decode cX8_prepare 64 = .ok (.aaload, 1) := by decide +kernel
theorem dX8_prepare_65 : decode cX8_prepare 65 = .ok (.aload_n 1, 1) := by decide +kernel
theorem dX8_prepare_66 : decode cX8_prepare 66 = .ok (.invokevirtual 69, 3) := by decide +kernel
theorem dX8_prepare_69 : decode cX8_prepare 69 = .ok (.return_, 1) := by decide +kernel
theorem dX8_explore_0 : decode cX8_explore 0 = .ok (.iload_n 2, 1) := by decide +kernel
theorem dX8_explore_1 : decode cX8_explore 1 = .ok (.aload_n 0, 1) := by decide +kernel
theorem dX8_explore_2 : decode cX8_explore 2 = .ok (.getfield 29, 3) := by decide +kernel
theorem dX8_explore_5 : decode cX8_explore 5 = .ok (.if_icmp .ge 8, 3) := by decide +kernel
theorem dX8_explore_8 : decode cX8_explore 8 = .ok (.iload_n 2, 1) := by decide +kernel
theorem dX8_explore_9 : decode cX8_explore 9 = .ok (.iconst 5, 1) := by decide +kernel
theorem dX8_explore_10 : decode cX8_explore 10 = .ok (.if_icmp .lt 4, 3) := by decide +kernel
theorem dX8_explore_13 : decode cX8_explore 13 = .ok (.return_, 1) := by decide +kernel
theorem dX8_explore_14 : decode cX8_explore 14 = .ok (.iconst 0, 1) := by decide +kernel
theorem dX8_explore_15 : decode cX8_explore 15 = .ok (.istore_n 3, 1) := by decide +kernel
theorem dX8_explore_16 : decode cX8_explore 16 = .ok (.iload_n 3, 1) := by decide +kernel
theorem dX8_explore_17 : decode cX8_explore 17 = .ok (.iconst 4, 1) := by decide +kernel
theorem dX8_explore_18 : decode cX8_explore 18 = .ok (.if_icmp .gt 33, 3) := by decide +kernel
theorem dX8_explore_21 : decode cX8_explore 21 = .ok (.aload_n 0, 1) := by decide +kernel
theorem dX8_explore_22 : decode cX8_explore 22 = .ok (.getfield 41, 3) := by decide +kernel
theorem dX8_explore_25 : decode cX8_explore 25 = .ok (.aload_n 0, 1) := by decide +kernel
theorem dX8_explore_26 : decode cX8_explore 26 = .ok (.getfield 66, 3) := by decide +kernel
theorem dX8_explore_29 : decode cX8_explore 29 = .ok (.if_icmp .ge 22, 3) := by decide +kernel
theorem dX8_explore_32 : decode cX8_explore 32 = .ok (.aload_n 0, 1) := by decide +kernel
theorem dX8_explore_33 : decode cX8_explore 33 = .ok (.getfield 17, 3) := by decide +kernel
theorem dX8_explore_36 : decode cX8_explore 36 = .ok (.iload_n 2, 1) := by decide +kernel
theorem dX8_explore_37 : decode cX8_explore 37 = .ok (.iload_n 3, 1) := by decide +kernel
theorem dX8_explore_38 : decode cX8_explore 38 = .ok (.iastore, 1) := by decide +kernel
theorem dX8_explore_39 : decode cX8_explore 39 = .ok (.aload_n 0, 1) := by decide +kernel
theorem dX8_explore_40 : decode cX8_explore 40 = .ok (.aload_n 1, 1) := by decide +kernel
theorem dX8_explore_41 : decode cX8_explore 41 = .ok (.iload_n 2, 1) := by decide +kernel
theorem dX8_explore_42 : decode cX8_explore 42 = .ok (.invokevirtual 73, 3) := by decide +kernel
theorem dX8_explore_45 : decode cX8_explore 45 = .ok (.iinc 3 1, 3) := by decide +kernel
theorem dX8_explore_48 : decode cX8_explore 48 = .ok (.goto (-32), 3) := by decide +kernel
theorem dX8_explore_51 : decode cX8_explore 51 = .ok (.return_, 1) := by decide +kernel
theorem dX8_goOn_0 : decode cX8_goOn 0 = .ok (.aload_n 0, 1) := by decide +kernel
theorem dX8_goOn_1 : decode cX8_goOn 1 = .ok (.getfield 11, 3) := by decide +kernel
theorem dX8_goOn_4 : decode cX8_goOn 4 = .ok (.iload_n 2, 1) := by decide +kernel
theorem dX8_goOn_5 : decode cX8_goOn 5 = .ok (.iconst 1, 1) := by decide +kernel
theorem dX8_goOn_6 : decode cX8_goOn 6 = .ok (.iadd, 1) := by decide +kernel
theorem dX8_goOn_7 : decode cX8_goOn 7 = .ok (.aaload, 1) := by decide +kernel
theorem dX8_goOn_8 : decode cX8_goOn 8 = .ok (.astore_n 3, 1) := by decide +kernel
theorem dX8_goOn_9 : decode cX8_goOn 9 = .ok (.aload_n 3, 1) := by decide +kernel
theorem dX8_goOn_10 : decode cX8_goOn 10 = .ok (.aload_n 0, 1) := by decide +kernel
theorem dX8_goOn_11 : decode cX8_goOn 11 = .ok (.getfield 11, 3) := by decide +kernel
theorem dX8_goOn_14 : decode cX8_goOn 14 = .ok (.iload_n 2, 1) := by decide +kernel
theorem dX8_goOn_15 : decode cX8_goOn 15 = .ok (.aaload, 1) := by decide +kernel
theorem dX8_goOn_16 : decode cX8_goOn 16 = .ok (.invokevirtual 76, 3) := by decide +kernel
theorem dX8_goOn_19 : decode cX8_goOn 19 = .ok (.aload_n 3, 1) := by decide +kernel
theorem dX8_goOn_20 : decode cX8_goOn 20 = .ok (.aload_n 1, 1) := by decide +kernel
theorem dX8_goOn_21 : decode cX8_goOn 21 = .ok (.aload_n 0, 1) := by decide +kernel
theorem dX8_goOn_22 : decode cX8_goOn 22 = .ok (.getfield 17, 3) := by decide +kernel
theorem dX8_goOn_25 : decode cX8_goOn 25 = .ok (.iload_n 2, 1) := by decide +kernel
theorem dX8_goOn_26 : decode cX8_goOn 26 = .ok (.iaload, 1) := by decide +kernel
theorem dX8_goOn_27 : decode cX8_goOn 27 = .ok (.invokevirtual 80, 3) := by decide +kernel
theorem dX8_goOn_30 : decode cX8_goOn 30 = .ok (.aload_n 3, 1) := by decide +kernel
theorem dX8_goOn_31 : decode cX8_goOn 31 = .ok (.getfield 83, 3) := by decide +kernel
theorem dX8_goOn_34 : decode cX8_goOn 34 = .ok (.ifCond .ne 33, 3) := by decide +kernel
theorem dX8_goOn_37 : decode cX8_goOn 37 = .ok (.aload_n 3, 1) := by decide +kernel
theorem dX8_goOn_38 : decode cX8_goOn 38 = .ok (.getfield 86, 3) := by decide +kernel
theorem dX8_goOn_41 : decode cX8_goOn 41 = .ok (.aload_n 3, 1) := by decide +kernel
theorem dX8_goOn_42 : decode cX8_goOn 42 = .ok (.getfield 89, 3) := by decide +kernel
theorem dX8_goOn_45 : decode cX8_goOn 45 = .ok (.if_icmp .ge 22, 3) := by decide +kernel
theorem dX8_goOn_48 : decode cX8_goOn 48 = .ok (.iload_n 2, 1) := by decide +kernel
theorem dX8_goOn_49 : decode cX8_goOn 49 = .ok (.iconst 1, 1) := by decide +kernel
theorem dX8_goOn_50 : decode cX8_goOn 50 = .ok (.iadd, 1) := by decide +kernel
theorem dX8_goOn_51 : decode cX8_goOn 51 = .ok (.aload_n 0, 1) := by decide +kernel
theorem dX8_goOn_52 : decode cX8_goOn 52 = .ok (.getfield 29, 3) := by decide +kernel
theorem dX8_goOn_55 : decode cX8_goOn 55 = .ok (.if_icmp .ge 12, 3) := by decide +kernel
theorem dX8_goOn_58 : decode cX8_goOn 58 = .ok (.aload_n 0, 1) := by decide +kernel
theorem dX8_goOn_59 : decode cX8_goOn 59 = .ok (.aload_n 1, 1) := by decide +kernel
theorem dX8_goOn_60 : decode cX8_goOn 60 = .ok (.iload_n 2, 1) := by decide +kernel
theorem dX8_goOn_61 : decode cX8_goOn 61 = .ok (.iconst 1, 1) := by decide +kernel
theorem dX8_goOn_62 : decode cX8_goOn 62 = .ok (.iadd, 1) := by decide +kernel
theorem dX8_goOn_63 : decode cX8_goOn 63 = .ok (.invokevirtual 37, 3) := by decide +kernel
theorem dX8_goOn_66 : decode cX8_goOn 66 = .ok (.return_, 1) := by decide +kernel
theorem dX8_goOn_67 : decode cX8_goOn 67 = .ok (.aload_n 3, 1) := by decide +kernel
theorem dX8_goOn_68 : decode cX8_goOn 68 = .ok (.invokevirtual 92, 3) := by decide +kernel
theorem dX8_goOn_71 : decode cX8_goOn 71 = .ok (.iconst 0, 1) := by decide +kernel
theorem dX8_goOn_72 : decode cX8_goOn 72 = .ok (.istore 4, 2) := by decide +kernel
theorem dX8_goOn_74 : decode cX8_goOn 74 = .ok (.iload 4, 2) := by decide +kernel
theorem dX8_goOn_76 : decode cX8_goOn 76 = .ok (.bipush 8, 2) := by decide +kernel
theorem dX8_goOn_78 : decode cX8_goOn 78 = .ok (.if_icmp .ge 22, 3) := by decide +kernel
theorem dX8_goOn_81 : decode cX8_goOn 81 = .ok (.aload_n 3, 1) := by decide +kernel
theorem dX8_goOn_82 : decode cX8_goOn 82 = .ok (.getfield 83, 3) := by decide +kernel
theorem dX8_goOn_85 : decode cX8_goOn 85 = .ok (.ifCond .ne 15, 3) := by decide +kernel
theorem dX8_goOn_88 : decode cX8_goOn 88 = .ok (.aload_n 3, 1) := by decide +kernel
theorem dX8_goOn_89 : decode cX8_goOn 89 = .ok (.aload_n 1, 1) := by decide +kernel
theorem dX8_goOn_90 : decode cX8_goOn 90 = .ok (.iconst 2, 1) := by decide +kernel
theorem dX8_goOn_91 : decode cX8_goOn 91 = .ok (.invokevirtual 80, 3) := by decide +kernel
theorem dX8_goOn_94 : decode cX8_goOn 94 = .ok (.iinc 4 1, 3) := by decide +kernel
theorem dX8_goOn_97 : decode cX8_goOn 97 = .ok (.goto (-23), 3) := by decide +kernel
theorem dX8_goOn_100 : decode cX8_goOn 100 = .ok (.aload_n 0, 1) := by decide +kernel
theorem dX8_goOn_101 : decode cX8_goOn 101 = .ok (.aload_n 1, 1) := by decide +kernel
theorem dX8_goOn_102 : decode cX8_goOn 102 = .ok (.aload_n 3, 1) := by decide +kernel
theorem dX8_goOn_103 : decode cX8_goOn 103 = .ok (.iload_n 2, 1) := by decide +kernel
theorem dX8_goOn_104 : decode cX8_goOn 104 = .ok (.invokevirtual 95, 3) := by decide +kernel
theorem dX8_goOn_107 : decode cX8_goOn 107 = .ok (.return_, 1) := by decide +kernel
theorem dX8_compare_0 : decode cX8_compare 0 = .ok (.aload_n 0, 1) := by decide +kernel
theorem dX8_compare_1 : decode cX8_compare 1 = .ok (.getfield 54, 3) := by decide +kernel
theorem dX8_compare_4 : decode cX8_compare 4 = .ok (.iconst (-1), 1) := by decide +kernel
theorem dX8_compare_5 : decode cX8_compare 5 = .ok (.if_icmp .ne 18, 3) := by decide +kernel
theorem dX8_compare_8 : decode cX8_compare 8 = .ok (.aload_n 2, 1) := by decide +kernel
theorem dX8_compare_9 : decode cX8_compare 9 = .ok (.invokevirtual 99, 3) := by decide +kernel
theorem dX8_compare_12 : decode cX8_compare 12 = .ok (.aload_n 2, 1) := by decide +kernel
theorem dX8_compare_13 : decode cX8_compare 13 = .ok (.aload_n 1, 1) := by decide +kernel
theorem dX8_compare_14 : decode cX8_compare 14 = .ok (.invokevirtual 103, 3) := by decide +kernel
theorem dX8_compare_17 : decode cX8_compare 17 = .ok (.isub, 1) := by decide +kernel
theorem dX8_compare_18 : decode cX8_compare 18 = .ok (.istore 4, 2) := by decide +kernel
theorem dX8_compare_20 : decode cX8_compare 20 = .ok (.goto 33, 3) := by decide +kernel
theorem dX8_compare_23 : decode cX8_compare 23 = .ok (.aload_n 2, 1) := by decide +kernel
theorem dX8_compare_24 : decode cX8_compare 24 = .ok (.getfield 83, 3) := by decide +kernel
theorem dX8_compare_27 : decode cX8_compare 27 = .ok (.iconst 1, 1) := by decide +kernel
theorem dX8_compare_28 : decode cX8_compare 28 = .ok (.if_icmp .ne 22, 3) := by decide +kernel
theorem dX8_compare_31 : decode cX8_compare 31 = .ok (.aload_n 2, 1) := by decide +kernel
theorem dX8_compare_32 : decode cX8_compare 32 = .ok (.getfield 107, 3) := by decide +kernel
theorem dX8_compare_35 : decode cX8_compare 35 = .ok (.aload_n 0, 1) := by decide +kernel
theorem dX8_compare_36 : decode cX8_compare 36 = .ok (.getfield 54, 3) := by decide +kernel
theorem dX8_compare_39 : decode cX8_compare 39 = .ok (.ishr, 1) := by decide +kernel
theorem dX8_compare_40 : decode cX8_compare 40 = .ok (.iconst 1, 1) := by decide +kernel
theorem dX8_compare_41 : decode cX8_compare 41 = .ok (.iand, 1) := by decide +kernel
theorem dX8_compare_42 : decode cX8_compare 42 = .ok (.iconst 1, 1) := by decide +kernel
theorem dX8_compare_43 : decode cX8_compare 43 = .ok (.if_icmp .ne 7, 3) := by decide +kernel
theorem dX8_compare_46 : decode cX8_compare 46 = .ok (.iconst 1, 1) := by decide +kernel
theorem dX8_compare_47 : decode cX8_compare 47 = .ok (.goto 4, 3) := by decide +kernel
theorem dX8_compare_50 : decode cX8_compare 50 = .ok (.iconst 0, 1) := by decide +kernel
theorem dX8_compare_51 : decode cX8_compare 51 = .ok (.istore 4, 2) := by decide +kernel
theorem dX8_compare_53 : decode cX8_compare 53 = .ok (.iload 4, 2) := by decide +kernel
theorem dX8_compare_55 : decode cX8_compare 55 = .ok (.aload_n 0, 1) := by decide +kernel
theorem dX8_compare_56 : decode cX8_compare 56 = .ok (.getfield 41, 3) := by decide +kernel
theorem dX8_compare_59 : decode cX8_compare 59 = .ok (.if_icmp .le 48, 3) := by decide +kernel
theorem dX8_compare_62 : decode cX8_compare 62 = .ok (.aload_n 0, 1) := by decide +kernel
theorem dX8_compare_63 : decode cX8_compare 63 = .ok (.iload 4, 2) := by decide +kernel
theorem dX8_compare_65 : decode cX8_compare 65 = .ok (.putfield 41, 3) := by decide +kernel
theorem dX8_compare_68 : decode cX8_compare 68 = .ok (.iconst 0, 1) := by decide +kernel
theorem dX8_compare_69 : decode cX8_compare 69 = .ok (.istore 5, 2) := by decide +kernel
theorem dX8_compare_71 : decode cX8_compare 71 = .ok (.iload 5, 2) := by decide +kernel
theorem dX8_compare_73 : decode cX8_compare 73 = .ok (.iconst 5, 1) := by decide +kernel
theorem dX8_compare_74 : decode cX8_compare 74 = .ok (.if_icmp .ge 33, 3) := by decide +kernel
theorem dX8_compare_77 : decode cX8_compare 77 = .ok (.aload_n 0, 1) := by decide +kernel
theorem dX8_compare_78 : decode cX8_compare 78 = .ok (.getfield 21, 3) := by decide +kernel
theorem dX8_compare_81 : decode cX8_compare 81 = .ok (.iload 5, 2) := by decide +kernel
theorem dX8_compare_83 : decode cX8_compare 83 = .ok (.iload 5, 2) := by decide +kernel
theorem dX8_compare_85 : decode cX8_compare 85 = .ok (.iload_n 3, 1) := by decide +kernel
theorem dX8_compare_86 : decode cX8_compare 86 = .ok (.if_icmp .gt 13, 3) := by decide +kernel
theorem dX8_compare_89 : decode cX8_compare 89 = .ok (.aload_n 0, 1) := by decide +kernel
theorem dX8_compare_90 : decode cX8_compare 90 = .ok (.getfield 17, 3) := by decide +kernel
theorem dX8_compare_93 : decode cX8_compare 93 = .ok (.iload 5, 2) := by decide +kernel
theorem dX8_compare_95 : decode cX8_compare 95 = .ok (.iaload, 1) := by decide +kernel
theorem dX8_compare_96 : decode cX8_compare 96 = .ok (.goto 4, 3) := by decide +kernel
theorem dX8_compare_99 : decode cX8_compare 99 = .ok (.iconst 0, 1) := by decide +kernel
theorem dX8_compare_100 : decode cX8_compare 100 = .ok (.iastore, 1) := by decide +kernel
theorem dX8_compare_101 : decode cX8_compare 101 = .ok (.iinc 5 1, 3) := by decide +kernel
theorem dX8_compare_104 : decode cX8_compare 104 = .ok (.goto (-33), 3) := by decide +kernel
theorem dX8_compare_107 : decode cX8_compare 107 = .ok (.return_, 1) := by decide +kernel
theorem dX9_init_0 : decode cX9_init 0 = .ok (.aload_n 0, 1) := by decide +kernel
theorem dX9_init_1 : decode cX9_init 1 = .ok (.invokespecial 3, 3) := by decide +kernel
theorem dX9_init_4 : decode cX9_init 4 = .ok (.aload_n 0, 1) := by decide +kernel
theorem dX9_init_5 : decode cX9_init 5 = .ok (.iconst 2, 1) := by decide +kernel
theorem dX9_init_6 : decode cX9_init 6 = .ok (.newarray .int, 2) := by decide +kernel
theorem dX9_init_8 : decode cX9_init 8 = .ok (.putfield 9, 3) := by decide +kernel
theorem dX9_init_11 : decode cX9_init 11 = .ok (.aload_n 0, 1) := by decide +kernel
theorem dX9_init_12 : decode cX9_init 12 = .ok (.iconst 2, 1) := by decide +kernel
theorem dX9_init_13 : decode cX9_init 13 = .ok (.newarray .int, 2) := by decide +kernel
theorem dX9_init_15 : decode cX9_init 15 = .ok (.putfield 15, 3) := by decide +kernel
theorem dX9_init_18 : decode cX9_init 18 = .ok (.aload_n 0, 1) := by decide +kernel
theorem dX9_init_19 : decode cX9_init 19 = .ok (.iconst 2, 1) := by decide +kernel
theorem dX9_init_20 : decode cX9_init 20 = .ok (.newarray .int, 2) := by decide +kernel
theorem dX9_init_22 : decode cX9_init 22 = .ok (.putfield 18, 3) := by decide +kernel
theorem dX9_init_25 : decode cX9_init 25 = .ok (.aload_n 0, 1) := by decide +kernel
theorem dX9_init_26 : decode cX9_init 26 = .ok (.bipush 14, 2) := by decide +kernel
theorem dX9_init_28 : decode cX9_init 28 = .ok (.newarray .int, 2) := by decide +kernel
theorem dX9_init_30 : decode cX9_init 30 = .ok (.putfield 21, 3) := by decide +kernel
theorem dX9_init_33 : decode cX9_init 33 = .ok (.return_, 1) := by decide +kernel
theorem dX9_read_0 : decode cX9_read 0 = .ok (.aload_n 0, 1) := by decide +kernel
theorem dX9_read_1 : decode cX9_read 1 = .ok (.getfield 9, 3) := by decide +kernel
theorem dX9_read_4 : decode cX9_read 4 = .ok (.iconst 0, 1) := by decide +kernel
theorem dX9_read_5 : decode cX9_read 5 = .ok (.iconst 1, 1) := by decide +kernel
theorem dX9_read_6 : decode cX9_read 6 = .ok (.iload_n 2, 1) := by decide +kernel
theorem dX9_read_7 : decode cX9_read 7 = .ok (.bipush 10, 2) := by decide +kernel
theorem dX9_read_9 : decode cX9_read 9 = .ok (.idiv, 1) := by decide +kernel
theorem dX9_read_10 : decode cX9_read 10 = .ok (.ishl, 1) := by decide +kernel
theorem dX9_read_11 : decode cX9_read 11 = .ok (.iconst 1, 1) := by decide +kernel
theorem dX9_read_12 : decode cX9_read 12 = .ok (.isub, 1) := by decide +kernel
theorem dX9_read_13 : decode cX9_read 13 = .ok (.iastore, 1) := by decide +kernel
theorem dX9_read_14 : decode cX9_read 14 = .ok (.aload_n 0, 1) := by decide +kernel
theorem dX9_read_15 : decode cX9_read 15 = .ok (.getfield 9, 3) := by decide +kernel
theorem dX9_read_18 : decode cX9_read 18 = .ok (.iconst 1, 1) := by decide +kernel
theorem dX9_read_19 : decode cX9_read 19 = .ok (.iconst 1, 1) := by decide +kernel
theorem dX9_read_20 : decode cX9_read 20 = .ok (.iload_n 2, 1) := by decide +kernel
theorem dX9_read_21 : decode cX9_read 21 = .ok (.bipush 10, 2) := by decide +kernel
theorem dX9_read_23 : decode cX9_read 23 = .ok (.irem, 1) := by decide +kernel
theorem dX9_read_24 : decode cX9_read 24 = .ok (.ishl, 1) := by decide +kernel
theorem dX9_read_25 : decode cX9_read 25 = .ok (.iconst 1, 1) := by decide +kernel
theorem dX9_read_26 : decode cX9_read 26 = .ok (.isub, 1) := by decide +kernel
theorem dX9_read_27 : decode cX9_read 27 = .ok (.iastore, 1) := by decide +kernel
theorem dX9_read_28 : decode cX9_read 28 = .ok (.aload_n 0, 1) := by decide +kernel
theorem dX9_read_29 : decode cX9_read 29 = .ok (.getfield 15, 3) := by decide +kernel
theorem dX9_read_32 : decode cX9_read 32 = .ok (.iconst 0, 1) := by decide +kernel
theorem dX9_read_33 : decode cX9_read 33 = .ok (.invokestatic 24, 3) := by decide +kernel
theorem dX9_read_36 : decode cX9_read 36 = .ok (.aload_n 0, 1) := by decide +kernel
theorem dX9_read_37 : decode cX9_read 37 = .ok (.getfield 18, 3) := by decide +kernel
theorem dX9_read_40 : decode cX9_read 40 = .ok (.iconst 0, 1) := by decide +kernel
theorem dX9_read_41 : decode cX9_read 41 = .ok (.invokestatic 24, 3) := by decide +kernel
theorem dX9_read_44 : decode cX9_read 44 = .ok (.iconst 0, 1) := by decide +kernel
theorem dX9_read_45 : decode cX9_read 45 = .ok (.istore_n 3, 1) := by decide +kernel
theorem dX9_read_46 : decode cX9_read 46 = .ok (.iload_n 3, 1) := by decide +kernel
theorem dX9_read_47 : decode cX9_read 47 = .ok (.aload_n 1, 1) := by decide +kernel
theorem dX9_read_48 : decode cX9_read 48 = .ok (.getfield 30, 3) := by decide +kernel
theorem dX9_read_51 : decode cX9_read 51 = .ok (.if_icmp .ge 44, 3) := by decide +kernel
theorem dX9_read_54 : decode cX9_read 54 = .ok (.iload_n 3, 1) := by decide +kernel
theorem dX9_read_55 : decode cX9_read 55 = .ok (.iconst 1, 1) := by decide +kernel
theorem dX9_read_56 : decode cX9_read 56 = .ok (.iand, 1) := by decide +kernel
theorem dX9_read_57 : decode cX9_read 57 = .ok (.istore 4, 2) := by decide +kernel
theorem dX9_read_59 : decode cX9_read 59 = .ok (.aload_n 0, 1) := by decide +kernel
theorem dX9_read_60 : decode cX9_read 60 = .ok (.iload 4, 2) := by decide +kernel
theorem dX9_read_62 : decode cX9_read 62 = .ok (.aload_n 1, 1) := by decide +kernel
theorem dX9_read_63 : decode cX9_read 63 = .ok (.getfield 36, 3) := by decide +kernel
theorem dX9_read_66 : decode cX9_read 66 = .ok (.iload_n 3, 1) := by decide +kernel
theorem dX9_read_67 : decode cX9_read 67 = .ok (.laload, 1) := by decide +kernel
theorem dX9_read_68 : decode cX9_read 68 = .ok (.invokevirtual 40, 3) := by decide +kernel
theorem dX9_read_71 : decode cX9_read 71 = .ok (.ifCond .ne 5, 3) := by decide +kernel
theorem dX9_read_74 : decode cX9_read 74 = .ok (.iload_n 3, 1) := by decide +kernel
theorem dX9_read_75 : decode cX9_read 75 = .ok (.ireturn, 1) := by decide +kernel
theorem dX9_read_76 : decode cX9_read 76 = .ok (.aload_n 0, 1) := by decide +kernel
theorem dX9_read_77 : decode cX9_read 77 = .ok (.iload 4, 2) := by decide +kernel
theorem dX9_read_79 : decode cX9_read 79 = .ok (.aload_n 1, 1) := by decide +kernel
theorem dX9_read_80 : decode cX9_read 80 = .ok (.getfield 36, 3) := by decide +kernel
theorem dX9_read_83 : decode cX9_read 83 = .ok (.iload_n 3, 1) := by decide +kernel
theorem dX9_read_84 : decode cX9_read 84 = .ok (.laload, 1) := by decide +kernel
theorem dX9_read_85 : decode cX9_read 85 = .ok (.l2i, 1) := by decide +kernel
theorem dX9_read_86 : decode cX9_read 86 = .ok (.invokevirtual 44, 3) := by decide +kernel
theorem dX9_read_89 : decode cX9_read 89 = .ok (.iinc 3 1, 3) := by decide +kernel
theorem dX9_read_92 : decode cX9_read 92 = .ok (.goto (-46), 3) := by decide +kernel
theorem dX9_read_95 : decode cX9_read 95 = .ok (.bipush (-2), 2) := by decide +kernel
theorem dX9_read_97 : decode cX9_read 97 = .ok (.ireturn, 1) := by decide +kernel
theorem dX9_outLongest_0 : decode cX9_outLongest 0 = .ok (.aload_n 0, 1) := by decide +kernel
theorem dX9_outLongest_1 : decode cX9_outLongest 1 = .ok (.getfield 18, 3) := by decide +kernel
theorem dX9_outLongest_4 : decode cX9_outLongest 4 = .ok (.iload_n 1, 1) := by decide +kernel
theorem dX9_outLongest_5 : decode cX9_outLongest 5 = .ok (.iaload, 1) := by decide +kernel
theorem dX9_outLongest_6 : decode cX9_outLongest 6 = .ok (.ifCond .ne 8, 3) := by decide +kernel
theorem dX9_outLongest_9 : decode cX9_outLongest 9 = .ok (.bipush (-2), 2) := by decide +kernel
theorem dX9_outLongest_11 : decode cX9_outLongest 11 = .ok (.goto 12, 3) := by decide +kernel
theorem dX9_outLongest_14 : decode cX9_outLongest 14 = .ok (.aload_n 0, 1) := by decide +kernel
theorem dX9_outLongest_15 : decode cX9_outLongest 15 = .ok (.getfield 21, 3) := by decide +kernel
theorem dX9_outLongest_18 : decode cX9_outLongest 18 = .ok (.iload_n 1, 1) := by decide +kernel
theorem dX9_outLongest_19 : decode cX9_outLongest 19 = .ok (.bipush 7, 2) := by decide +kernel
theorem dX9_outLongest_21 : decode cX9_outLongest 21 = .ok (.imul, 1) := by decide +kernel
theorem dX9_outLongest_22 : decode cX9_outLongest 22 = .ok (.iaload, 1) := by decide +kernel
theorem dX9_outLongest_23 : decode cX9_outLongest 23 = .ok (.ireturn, 1) := by decide +kernel
theorem dX9_canBe_0 : decode cX9_canBe 0 = .ok (.aload_n 0, 1) := by decide +kernel
theorem dX9_canBe_1 : decode cX9_canBe 1 = .ok (.getfield 9, 3) := by decide +kernel
theorem dX9_canBe_4 : decode cX9_canBe 4 = .ok (.iload_n 1, 1) := by decide +kernel
theorem dX9_canBe_5 : decode cX9_canBe 5 = .ok (.iaload, 1) := by decide +kernel
theorem dX9_canBe_6 : decode cX9_canBe 6 = .ok (.ifCond .eq 17, 3) := by decide +kernel
theorem dX9_canBe_9 : decode cX9_canBe 9 = .ok (.lload_n 2, 1) := by decide +kernel
theorem dX9_canBe_10 : decode cX9_canBe 10 = .ok (.lconst 0, 1) := by decide +kernel
theorem dX9_canBe_11 : decode cX9_canBe 11 = .ok (.lcmp, 1) := by decide +kernel
theorem dX9_canBe_12 : decode cX9_canBe 12 = .ok (.ifCond .lt 11, 3) := by decide +kernel
theorem dX9_canBe_15 : decode cX9_canBe 15 = .ok (.lload_n 2, 1) := by decide +kernel
theorem dX9_canBe_16 : decode cX9_canBe 16 = .ok (.ldc2_w 48, 3) := by decide +kernel
theorem dX9_canBe_19 : decode cX9_canBe 19 = .ok (.lcmp, 1) := by decide +kernel
theorem dX9_canBe_20 : decode cX9_canBe 20 = .ok (.ifCond .le 5, 3) := by decide +kernel
theorem dX9_canBe_23 : decode cX9_canBe 23 = .ok (.iconst 0, 1) := by decide +kernel
theorem dX9_canBe_24 : decode cX9_canBe 24 = .ok (.ireturn, 1) := by decide +kernel
theorem dX9_canBe_25 : decode cX9_canBe 25 = .ok (.lload_n 2, 1) := by decide +kernel
theorem dX9_canBe_26 : decode cX9_canBe 26 = .ok (.ldc2_w 48, 3) := by decide +kernel
theorem dX9_canBe_29 : decode cX9_canBe 29 = .ok (.lcmp, 1) := by decide +kernel
theorem dX9_canBe_30 : decode cX9_canBe 30 = .ok (.ifCond .eq 20, 3) := by decide +kernel
theorem dX9_canBe_33 : decode cX9_canBe 33 = .ok (.lload_n 2, 1) := by decide +kernel
theorem dX9_canBe_34 : decode cX9_canBe 34 = .ok (.aload_n 0, 1) := by decide +kernel
theorem dX9_canBe_35 : decode cX9_canBe 35 = .ok (.getfield 9, 3) := by decide +kernel
theorem dX9_canBe_38 : decode cX9_canBe 38 = .ok (.iconst 1, 1) := by decide +kernel
theorem dX9_canBe_39 : decode cX9_canBe 39 = .ok (.iload_n 1, 1) := by decide +kernel
theorem dX9_canBe_40 : decode cX9_canBe 40 = .ok (.isub, 1) := by decide +kernel
theorem dX9_canBe_41 : decode cX9_canBe 41 = .ok (.iaload, 1) := by decide +kernel
theorem dX9_canBe_42 : decode cX9_canBe 42 = .ok (.invokestatic 50, 3) := by decide +kernel
theorem dX9_canBe_45 : decode cX9_canBe 45 = .ok (.i2l, 1) := by decide +kernel
theorem dX9_canBe_46 : decode cX9_canBe 46 = .ok (.lcmp, 1) := by decide +kernel
theorem dX9_canBe_47 : decode cX9_canBe 47 = .ok (.ifCond .gt 7, 3) := by decide +kernel
theorem dX9_canBe_50 : decode cX9_canBe 50 = .ok (.iconst 1, 1) := by decide +kernel
theorem dX9_canBe_51 : decode cX9_canBe 51 = .ok (.goto 4, 3) := by decide +kernel
theorem dX9_canBe_54 : decode cX9_canBe 54 = .ok (.iconst 0, 1) := by decide +kernel
theorem dX9_canBe_55 : decode cX9_canBe 55 = .ok (.ireturn, 1) := by decide +kernel
theorem dX9_happen_0 : decode cX9_happen 0 = .ok (.iconst 1, 1) := by decide +kernel
theorem dX9_happen_1 : decode cX9_happen 1 = .ok (.iload_n 1, 1) := by decide +kernel
theorem dX9_happen_2 : decode cX9_happen 2 = .ok (.isub, 1) := by decide +kernel
theorem dX9_happen_3 : decode cX9_happen 3 = .ok (.istore_n 3, 1) := by decide +kernel
theorem dX9_happen_4 : decode cX9_happen 4 = .ok (.iload_n 2, 1) := by decide +kernel
theorem dX9_happen_5 : decode cX9_happen 5 = .ok (.bipush 8, 2) := by decide +kernel
theorem dX9_happen_7 : decode cX9_happen 7 = .ok (.if_icmp .ne 24, 3) := by decide +kernel
theorem dX9_happen_10 : decode cX9_happen 10 = .ok (.aload_n 0, 1) := by decide +kernel
theorem dX9_happen_11 : decode cX9_happen 11 = .ok (.iload_n 1, 1) := by decide +kernel
theorem dX9_happen_12 : decode cX9_happen 12 = .ok (.invokevirtual 56, 3) := by decide +kernel
theorem dX9_happen_15 : decode cX9_happen 15 = .ok (.aload_n 0, 1) := by decide +kernel
theorem dX9_happen_16 : decode cX9_happen 16 = .ok (.iload_n 3, 1) := by decide +kernel
theorem dX9_happen_17 : decode cX9_happen 17 = .ok (.invokevirtual 60, 3) := by decide +kernel
theorem dX9_happen_20 : decode cX9_happen 20 = .ok (.aload_n 0, 1) := by decide +kernel
theorem dX9_happen_21 : decode cX9_happen 21 = .ok (.getfield 15, 3) := by decide +kernel
theorem dX9_happen_24 : decode cX9_happen 24 = .ok (.iload_n 3, 1) := by decide +kernel
theorem dX9_happen_25 : decode cX9_happen 25 = .ok (.dup2, 1) := by decide +kernel
theorem dX9_happen_26 : decode cX9_happen 26 = .ok (.iaload, 1) := by decide +kernel
theorem dX9_happen_27 : decode cX9_happen 27 = .ok (.iconst 1, 1) := by decide +kernel
theorem dX9_happen_28 : decode cX9_happen 28 = .ok (.iadd, 1) := by decide +kernel
theorem dX9_happen_29 : decode cX9_happen 29 = .ok (.iastore, 1) := by decide +kernel
theorem dX9_happen_30 : decode cX9_happen 30 = .ok (.return_, 1) := by decide +kernel
theorem dX9_happen_31 : decode cX9_happen 31 = .ok (.iconst 0, 1) := by decide +kernel
theorem dX9_happen_32 : decode cX9_happen 32 = .ok (.istore 4, 2) := by decide +kernel
theorem dX9_happen_34 : decode cX9_happen 34 = .ok (.iload 4, 2) := by decide +kernel
theorem dX9_happen_36 : decode cX9_happen 36 = .ok (.iload_n 2, 1) := by decide +kernel
theorem dX9_happen_37 : decode cX9_happen 37 = .ok (.if_icmp .ge 19, 3) := by decide +kernel
theorem dX9_happen_40 : decode cX9_happen 40 = .ok (.aload_n 0, 1) := by decide +kernel
theorem dX9_happen_41 : decode cX9_happen 41 = .ok (.iload_n 3, 1) := by decide +kernel
theorem dX9_happen_42 : decode cX9_happen 42 = .ok (.invokevirtual 56, 3) := by decide +kernel
theorem dX9_happen_45 : decode cX9_happen 45 = .ok (.aload_n 0, 1) := by decide +kernel
theorem dX9_happen_46 : decode cX9_happen 46 = .ok (.iload_n 1, 1) := by decide +kernel
theorem dX9_happen_47 : decode cX9_happen 47 = .ok (.invokevirtual 60, 3) := by decide +kernel
theorem dX9_happen_50 : decode cX9_happen 50 = .ok (.iinc 4 1, 3) := by decide +kernel
theorem dX9_happen_53 : decode cX9_happen 53 = .ok (.goto (-19), 3) := by decide +kernel
theorem dX9_happen_56 : decode cX9_happen 56 = .ok (.aload_n 0, 1) := by decide +kernel
theorem dX9_happen_57 : decode cX9_happen 57 = .ok (.getfield 15, 3) := by decide +kernel
theorem dX9_happen_60 : decode cX9_happen 60 = .ok (.iload_n 1, 1) := by decide +kernel
theorem dX9_happen_61 : decode cX9_happen 61 = .ok (.dup2, 1) := by decide +kernel
theorem dX9_happen_62 : decode cX9_happen 62 = .ok (.iaload, 1) := by decide +kernel
theorem dX9_happen_63 : decode cX9_happen 63 = .ok (.iload_n 2, 1) := by decide +kernel
theorem dX9_happen_64 : decode cX9_happen 64 = .ok (.iadd, 1) := by decide +kernel
theorem dX9_happen_65 : decode cX9_happen 65 = .ok (.iastore, 1) := by decide +kernel
theorem dX9_happen_66 : decode cX9_happen 66 = .ok (.return_, 1) := by decide +kernel
theorem dX9_leave_0 : decode cX9_leave 0 = .ok (.iconst 0, 1) := by decide +kernel
theorem dX9_leave_1 : decode cX9_leave 1 = .ok (.istore_n 2, 1) := by decide +kernel
theorem dX9_leave_2 : decode cX9_leave 2 = .ok (.iload_n 2, 1) := by decide +kernel
theorem dX9_leave_3 : decode cX9_leave 3 = .ok (.bipush 7, 2) := by decide +kernel
theorem dX9_leave_5 : decode cX9_leave 5 = .ok (.if_icmp .ge 22, 3) := by decide +kernel
theorem dX9_leave_8 : decode cX9_leave 8 = .ok (.aload_n 0, 1) := by decide +kernel
theorem dX9_leave_9 : decode cX9_leave 9 = .ok (.getfield 9, 3) := by decide +kernel
theorem dX9_leave_12 : decode cX9_leave 12 = .ok (.iload_n 1, 1) := by decide +kernel
theorem dX9_leave_13 : decode cX9_leave 13 = .ok (.iaload, 1) := by decide +kernel
theorem dX9_leave_14 : decode cX9_leave 14 = .ok (.iload_n 2, 1) := by decide +kernel
theorem dX9_leave_15 : decode cX9_leave 15 = .ok (.ishr, 1) := by decide +kernel
theorem dX9_leave_16 : decode cX9_leave 16 = .ok (.iconst 1, 1) := by decide +kernel
theorem dX9_leave_17 : decode cX9_leave 17 = .ok (.iand, 1) := by decide +kernel
theorem dX9_leave_18 : decode cX9_leave 18 = .ok (.ifCond .ne 9, 3) := by decide +kernel
theorem dX9_leave_21 : decode cX9_leave 21 = .ok (.iinc 2 1, 3) := by decide +kernel
theorem dX9_leave_24 : decode cX9_leave 24 = .ok (.goto (-22), 3) := by decide +kernel
theorem dX9_leave_27 : decode cX9_leave 27 = .ok (.iload_n 2, 1) := by decide +kernel
theorem dX9_leave_28 : decode cX9_leave 28 = .ok (.bipush 7, 2) := by decide +kernel
theorem dX9_leave_30 : decode cX9_leave 30 = .ok (.if_icmp .ge 55, 3) := by decide +kernel
theorem dX9_leave_33 : decode cX9_leave 33 = .ok (.aload_n 0, 1) := by decide +kernel
theorem dX9_leave_34 : decode cX9_leave 34 = .ok (.getfield 18, 3) := by decide +kernel
theorem dX9_leave_37 : decode cX9_leave 37 = .ok (.iload_n 1, 1) := by decide +kernel
theorem dX9_leave_38 : decode cX9_leave 38 = .ok (.iaload, 1) := by decide +kernel
theorem dX9_leave_39 : decode cX9_leave 39 = .ok (.bipush 7, 2) := by decide +kernel
theorem dX9_leave_41 : decode cX9_leave 41 = .ok (.if_icmp .ge 44, 3) := by decide +kernel
theorem dX9_leave_44 : decode cX9_leave 44 = .ok (.aload_n 0, 1) := by decide +kernel
theorem dX9_leave_45 : decode cX9_leave 45 = .ok (.getfield 9, 3) := by decide +kernel
theorem dX9_leave_48 : decode cX9_leave 48 = .ok (.iload_n 1, 1) := by decide +kernel
theorem dX9_leave_49 : decode cX9_leave 49 = .ok (.dup2, 1) := by decide +kernel
theorem dX9_leave_50 : decode cX9_leave 50 = .ok (.iaload, 1) := by decide +kernel
theorem dX9_leave_51 : decode cX9_leave 51 = .ok (.iconst 1, 1) := by decide +kernel
theorem dX9_leave_52 : decode cX9_leave 52 = .ok (.iload_n 2, 1) := by decide +kernel
theorem dX9_leave_53 : decode cX9_leave 53 = .ok (.ishl, 1) := by decide +kernel
theorem dX9_leave_54 : decode cX9_leave 54 = .ok (.iconst (-1), 1) := by decide +kernel
theorem dX9_leave_55 : decode cX9_leave 55 = .ok (.ixor, 1) := by decide +kernel
theorem dX9_leave_56 : decode cX9_leave 56 = .ok (.iand, 1) := by decide +kernel
theorem dX9_leave_57 : decode cX9_leave 57 = .ok (.iastore, 1) := by decide +kernel
theorem dX9_leave_58 : decode cX9_leave 58 = .ok (.aload_n 0, 1) := by decide +kernel
theorem dX9_leave_59 : decode cX9_leave 59 = .ok (.getfield 21, 3) := by decide +kernel
theorem dX9_leave_62 : decode cX9_leave 62 = .ok (.iload_n 1, 1) := by decide +kernel
theorem dX9_leave_63 : decode cX9_leave 63 = .ok (.bipush 7, 2) := by decide +kernel
theorem dX9_leave_65 : decode cX9_leave 65 = .ok (.imul, 1) := by decide +kernel
theorem dX9_leave_66 : decode cX9_leave 66 = .ok (.aload_n 0, 1) := by decide +kernel
theorem dX9_leave_67 : decode cX9_leave 67 = .ok (.getfield 18, 3) := by decide +kernel
theorem dX9_leave_70 : decode cX9_leave 70 = .ok (.iload_n 1, 1) := by decide +kernel
theorem dX9_leave_71 : decode cX9_leave 71 = .ok (.iaload, 1) := by decide +kernel
theorem dX9_leave_72 : decode cX9_leave 72 = .ok (.iadd, 1) := by decide +kernel
theorem dX9_leave_73 : decode cX9_leave 73 = .ok (.iload_n 2, 1) := by decide +kernel
theorem dX9_leave_74 : decode cX9_leave 74 = .ok (.iastore, 1) := by decide +kernel
theorem dX9_leave_75 : decode cX9_leave 75 = .ok (.aload_n 0, 1) := by decide +kernel
theorem dX9_leave_76 : decode cX9_leave 76 = .ok (.getfield 18, 3) := by decide +kernel
theorem dX9_leave_79 : decode cX9_leave 79 = .ok (.iload_n 1, 1) := by decide +kernel
theorem dX9_leave_80 : decode cX9_leave 80 = .ok (.dup2, 1) := by decide +kernel
theorem dX9_leave_81 : decode cX9_leave 81 = .ok (.iaload, 1) := by decide +kernel
theorem dX9_leave_82 : decode cX9_leave 82 = .ok (.iconst 1, 1) := by decide +kernel
theorem dX9_leave_83 : decode cX9_leave 83 = .ok (.iadd, 1) := by decide +kernel
theorem dX9_leave_84 : decode cX9_leave 84 = .ok (.iastore, 1) := by decide +kernel
theorem dX9_leave_85 : decode cX9_leave 85 = .ok (.return_, 1) := by decide +kernel
theorem dX9_comeIn_0 : decode cX9_comeIn 0 = .ok (.aload_n 0, 1) := by decide +kernel
theorem dX9_comeIn_1 : decode cX9_comeIn 1 = .ok (.getfield 18, 3) := by decide +kernel
theorem dX9_comeIn_4 : decode cX9_comeIn 4 = .ok (.iload_n 1, 1) := by decide +kernel
theorem dX9_comeIn_5 : decode cX9_comeIn 5 = .ok (.iaload, 1) := by decide +kernel
theorem dX9_comeIn_6 : decode cX9_comeIn 6 = .ok (.ifCond .ne 4, 3) := by decide +kernel
theorem dX9_comeIn_9 : decode cX9_comeIn 9 = .ok (.return_, 1) := by decide +kernel
theorem dX9_comeIn_10 : decode cX9_comeIn 10 = .ok (.iload_n 1, 1) := by decide +kernel
theorem dX9_comeIn_11 : decode cX9_comeIn 11 = .ok (.bipush 7, 2) := by decide +kernel
theorem dX9_comeIn_13 : decode cX9_comeIn 13 = .ok (.imul, 1) := by decide +kernel
theorem dX9_comeIn_14 : decode cX9_comeIn 14 = .ok (.istore_n 2, 1) := by decide +kernel
theorem dX9_comeIn_15 : decode cX9_comeIn 15 = .ok (.aload_n 0, 1) := by decide +kernel
theorem dX9_comeIn_16 : decode cX9_comeIn 16 = .ok (.getfield 9, 3) := by decide +kernel
theorem dX9_comeIn_19 : decode cX9_comeIn 19 = .ok (.iload_n 1, 1) := by decide +kernel
theorem dX9_comeIn_20 : decode cX9_comeIn 20 = .ok (.dup2, 1) := by decide +kernel
theorem dX9_comeIn_21 : decode cX9_comeIn 21 = .ok (.iaload, 1) := by decide +kernel
theorem dX9_comeIn_22 : decode cX9_comeIn 22 = .ok (.iconst 1, 1) := by decide +kernel
theorem dX9_comeIn_23 : decode cX9_comeIn 23 = .ok (.aload_n 0, 1) := by decide +kernel
theorem dX9_comeIn_24 : decode cX9_comeIn 24 = .ok (.getfield 21, 3) := by decide +kernel
theorem dX9_comeIn_27 : decode cX9_comeIn 27 = .ok (.iload_n 2, 1) := by decide +kernel
theorem dX9_comeIn_28 : decode cX9_comeIn 28 = .ok (.iaload, 1) := by decide +kernel
theorem dX9_comeIn_29 : decode cX9_comeIn 29 = .ok (.ishl, 1) := by decide +kernel
theorem dX9_comeIn_30 : decode cX9_comeIn 30 = .ok (.ior, 1) := by decide +kernel
theorem dX9_comeIn_31 : decode cX9_comeIn 31 = .ok (.iastore, 1) := by decide +kernel
theorem dX9_comeIn_32 : decode cX9_comeIn 32 = .ok (.aload_n 0, 1) := by decide +kernel
theorem dX9_comeIn_33 : decode cX9_comeIn 33 = .ok (.getfield 18, 3) := by decide +kernel
theorem dX9_comeIn_36 : decode cX9_comeIn 36 = .ok (.iload_n 1, 1) := by decide +kernel
theorem dX9_comeIn_37 : decode cX9_comeIn 37 = .ok (.dup2, 1) := by decide +kernel
theorem dX9_comeIn_38 : decode cX9_comeIn 38 = .ok (.iaload, 1) := by decide +kernel
theorem dX9_comeIn_39 : decode cX9_comeIn 39 = .ok (.iconst 1, 1) := by decide +kernel
theorem dX9_comeIn_40 : decode cX9_comeIn 40 = .ok (.isub, 1) := by decide +kernel
theorem dX9_comeIn_41 : decode cX9_comeIn 41 = .ok (.iastore, 1) := by decide +kernel
theorem dX9_comeIn_42 : decode cX9_comeIn 42 = .ok (.iconst 0, 1) := by decide +kernel
theorem dX9_comeIn_43 : decode cX9_comeIn 43 = .ok (.istore_n 3, 1) := by decide +kernel
theorem dX9_comeIn_44 : decode cX9_comeIn 44 = .ok (.iload_n 3, 1) := by decide +kernel
theorem dX9_comeIn_45 : decode cX9_comeIn 45 = .ok (.aload_n 0, 1) := by decide +kernel
theorem dX9_comeIn_46 : decode cX9_comeIn 46 = .ok (.getfield 18, 3) := by decide +kernel
theorem dX9_comeIn_49 : decode cX9_comeIn 49 = .ok (.iload_n 1, 1) := by decide +kernel
theorem dX9_comeIn_50 : decode cX9_comeIn 50 = .ok (.iaload, 1) := by decide +kernel
theorem dX9_comeIn_51 : decode cX9_comeIn 51 = .ok (.if_icmp .ge 27, 3) := by decide +kernel
theorem dX9_comeIn_54 : decode cX9_comeIn 54 = .ok (.aload_n 0, 1) := by decide +kernel
theorem dX9_comeIn_55 : decode cX9_comeIn 55 = .ok (.getfield 21, 3) := by decide +kernel
theorem dX9_comeIn_58 : decode cX9_comeIn 58 = .ok (.iload_n 2, 1) := by decide +kernel
theorem dX9_comeIn_59 : decode cX9_comeIn 59 = .ok (.iload_n 3, 1) := by decide +kernel
theorem dX9_comeIn_60 : decode cX9_comeIn 60 = .ok (.iadd, 1) := by decide +kernel
theorem dX9_comeIn_61 : decode cX9_comeIn 61 = .ok (.aload_n 0, 1) := by decide +kernel
theorem dX9_comeIn_62 : decode cX9_comeIn 62 = .ok (.getfield 21, 3) := by decide +kernel
theorem dX9_comeIn_65 : decode cX9_comeIn 65 = .ok (.iload_n 2, 1) := by decide +kernel
theorem dX9_comeIn_66 : decode cX9_comeIn 66 = .ok (.iload_n 3, 1) := by decide +kernel
theorem dX9_comeIn_67 : decode cX9_comeIn 67 = .ok (.iadd, 1) := by decide +kernel
theorem dX9_comeIn_68 : decode cX9_comeIn 68 = .ok (.iconst 1, 1) := by decide +kernel
theorem dX9_comeIn_69 : decode cX9_comeIn 69 = .ok (.iadd, 1) := by decide +kernel
theorem dX9_comeIn_70 : decode cX9_comeIn 70 = .ok (.iaload, 1) := by decide +kernel
theorem dX9_comeIn_71 : decode cX9_comeIn 71 = .ok (.iastore, 1) := by decide +kernel
theorem dX9_comeIn_72 : decode cX9_comeIn 72 = .ok (.iinc 3 1, 3) := by decide +kernel
theorem dX9_comeIn_75 : decode cX9_comeIn 75 = .ok (.goto (-31), 3) := by decide +kernel
theorem dX9_comeIn_78 : decode cX9_comeIn 78 = .ok (.return_, 1) := by decide +kernel
theorem dX10_init_0 : decode cX10_init 0 = .ok (.aload_n 0, 1) := by decide +kernel
theorem dX10_init_1 : decode cX10_init 1 = .ok (.invokespecial 3, 3) := by decide +kernel
theorem dX10_init_4 : decode cX10_init 4 = .ok (.aload_n 0, 1) := by decide +kernel
theorem dX10_init_5 : decode cX10_init 5 = .ok (.bipush 60, 2) := by decide +kernel
theorem dX10_init_7 : decode cX10_init 7 = .ok (.newarray .long, 2) := by decide +kernel
theorem dX10_init_9 : decode cX10_init 9 = .ok (.putfield 11, 3) := by decide +kernel
theorem dX10_init_12 : decode cX10_init 12 = .ok (.return_, 1) := by decide +kernel
theorem dX10_isEmpty_0 : decode cX10_isEmpty 0 = .ok (.aload_n 0, 1) := by decide +kernel
theorem dX10_isEmpty_1 : decode cX10_isEmpty 1 = .ok (.getfield 15, 3) := by decide +kernel
theorem dX10_isEmpty_4 : decode cX10_isEmpty 4 = .ok (.ifCond .ne 7, 3) := by decide +kernel
theorem dX10_isEmpty_7 : decode cX10_isEmpty 7 = .ok (.iconst 1, 1) := by decide +kernel
theorem dX10_isEmpty_8 : decode cX10_isEmpty 8 = .ok (.goto 4, 3) := by decide +kernel
theorem dX10_isEmpty_11 : decode cX10_isEmpty 11 = .ok (.iconst 0, 1) := by decide +kernel
theorem dX10_isEmpty_12 : decode cX10_isEmpty 12 = .ok (.ireturn, 1) := by decide +kernel
theorem dX10_holdsRow_0 : decode cX10_holdsRow 0 = .ok (.aload_n 0, 1) := by decide +kernel
theorem dX10_holdsRow_1 : decode cX10_holdsRow 1 = .ok (.getfield 15, 3) := by decide +kernel
theorem dX10_holdsRow_4 : decode cX10_holdsRow 4 = .ok (.iconst 2, 1) := by decide +kernel
theorem dX10_holdsRow_5 : decode cX10_holdsRow 5 = .ok (.if_icmp .ne 7, 3) := by decide +kernel
theorem dX10_holdsRow_8 : decode cX10_holdsRow 8 = .ok (.iconst 1, 1) := by decide +kernel
theorem dX10_holdsRow_9 : decode cX10_holdsRow 9 = .ok (.goto 4, 3) := by decide +kernel
theorem dX10_holdsRow_12 : decode cX10_holdsRow 12 = .ok (.iconst 0, 1) := by decide +kernel
theorem dX10_holdsRow_13 : decode cX10_holdsRow 13 = .ok (.ireturn, 1) := by decide +kernel
theorem dX10_holdsBytes_0 : decode cX10_holdsBytes 0 = .ok (.aload_n 0, 1) := by decide +kernel
theorem dX10_holdsBytes_1 : decode cX10_holdsBytes 1 = .ok (.getfield 15, 3) := by decide +kernel
theorem dX10_holdsBytes_4 : decode cX10_holdsBytes 4 = .ok (.iconst 2, 1) := by decide +kernel
theorem dX10_holdsBytes_5 : decode cX10_holdsBytes 5 = .ok (.if_icmp .ne 14, 3) := by decide +kernel
theorem dX10_holdsBytes_8 : decode cX10_holdsBytes 8 = .ok (.aload_n 0, 1) := by decide +kernel
theorem dX10_holdsBytes_9 : decode cX10_holdsBytes 9 = .ok (.getfield 19, 3) := by decide +kernel
theorem dX10_holdsBytes_12 : decode cX10_holdsBytes 12 = .ok (.ifCond .ne 7, 3) := by decide +kernel
theorem dX10_holdsBytes_15 : decode cX10_holdsBytes 15 = .ok (.iconst 1, 1) := by decide +kernel
theorem dX10_holdsBytes_16 : decode cX10_holdsBytes 16 = .ok (.goto 4, 3) := by decide +kernel
theorem dX10_holdsBytes_19 : decode cX10_holdsBytes 19 = .ok (.iconst 0, 1) := by decide +kernel
theorem dX10_holdsBytes_20 : decode cX10_holdsBytes 20 = .ok (.ireturn, 1) := by decide +kernel
theorem dX10_holdBody_0 : decode cX10_holdBody 0 = .ok (.aload_n 0, 1) := by decide +kernel
theorem dX10_holdBody_1 : decode cX10_holdBody 1 = .ok (.iload_n 1, 1) := by decide +kernel
theorem dX10_holdBody_2 : decode cX10_holdBody 2 = .ok (.ifCond .ge 7, 3) := by decide +kernel
theorem dX10_holdBody_5 : decode cX10_holdBody 5 = .ok (.iconst 0, 1) := by decide +kernel
theorem dX10_holdBody_6 : decode cX10_holdBody 6 = .ok (.goto 4, 3) := by decide +kernel
theorem dX10_holdBody_9 : decode cX10_holdBody 9 = .ok (.iconst 1, 1) := by decide +kernel
theorem dX10_holdBody_10 : decode cX10_holdBody 10 = .ok (.putfield 15, 3) := by decide +kernel
theorem dX10_holdBody_13 : decode cX10_holdBody 13 = .ok (.aload_n 0, 1) := by decide +kernel
theorem dX10_holdBody_14 : decode cX10_holdBody 14 = .ok (.iload_n 1, 1) := by decide +kernel
theorem dX10_holdBody_15 : decode cX10_holdBody 15 = .ok (.putfield 22, 3) := by decide +kernel
theorem dX10_holdBody_18 : decode cX10_holdBody 18 = .ok (.return_, 1) := by decide +kernel
theorem dX10_holdRow_0 : decode cX10_holdRow 0 = .ok (.aload_n 0, 1) := by decide +kernel
theorem dX10_holdRow_1 : decode cX10_holdRow 1 = .ok (.iconst 2, 1) := by decide +kernel
theorem dX10_holdRow_2 : decode cX10_holdRow 2 = .ok (.putfield 15, 3) := by decide +kernel
theorem dX10_holdRow_5 : decode cX10_holdRow 5 = .ok (.aload_n 0, 1) := by decide +kernel
theorem dX10_holdRow_6 : decode cX10_holdRow 6 = .ok (.iload_n 1, 1) := by decide +kernel
theorem dX10_holdRow_7 : decode cX10_holdRow 7 = .ok (.putfield 19, 3) := by decide +kernel
theorem dX10_holdRow_10 : decode cX10_holdRow 10 = .ok (.aload_n 0, 1) := by decide +kernel
theorem dX10_holdRow_11 : decode cX10_holdRow 11 = .ok (.iload_n 2, 1) := by decide +kernel
theorem dX10_holdRow_12 : decode cX10_holdRow 12 = .ok (.putfield 25, 3) := by decide +kernel
theorem dX10_holdRow_15 : decode cX10_holdRow 15 = .ok (.aload_n 0, 1) := by decide +kernel
theorem dX10_holdRow_16 : decode cX10_holdRow 16 = .ok (.getfield 11, 3) := by decide +kernel
theorem dX10_holdRow_19 : decode cX10_holdRow 19 = .ok (.lconst 0, 1) := by decide +kernel
theorem dX10_holdRow_20 : decode cX10_holdRow 20 = .ok (.invokestatic 28, 3) := by decide +kernel
theorem dX10_holdRow_23 : decode cX10_holdRow 23 = .ok (.return_, 1) := by decide +kernel
theorem dX10_reaches_0 : decode cX10_reaches 0 = .ok (.iload_n 1, 1) := by decide +kernel
theorem dX10_reaches_1 : decode cX10_reaches 1 = .ok (.ifCond .lt 29, 3) := by decide +kernel
theorem dX10_reaches_4 : decode cX10_reaches 4 = .ok (.iload_n 2, 1) := by decide +kernel
theorem dX10_reaches_5 : decode cX10_reaches 5 = .ok (.ifCond .lt 25, 3) := by decide +kernel
theorem dX10_reaches_8 : decode cX10_reaches 8 = .ok (.iload_n 1, 1) := by decide +kernel
theorem dX10_reaches_9 : decode cX10_reaches 9 = .ok (.aload_n 0, 1) := by decide +kernel
theorem dX10_reaches_10 : decode cX10_reaches 10 = .ok (.getfield 25, 3) := by decide +kernel
theorem dX10_reaches_13 : decode cX10_reaches 13 = .ok (.if_icmp .gt 17, 3) := by decide +kernel
theorem dX10_reaches_16 : decode cX10_reaches 16 = .ok (.iload_n 2, 1) := by decide +kernel
theorem dX10_reaches_17 : decode cX10_reaches 17 = .ok (.aload_n 0, 1) := by decide +kernel
theorem dX10_reaches_18 : decode cX10_reaches 18 = .ok (.getfield 25, 3) := by decide +kernel
theorem dX10_reaches_21 : decode cX10_reaches 21 = .ok (.iload_n 1, 1) := by decide +kernel
theorem dX10_reaches_22 : decode cX10_reaches 22 = .ok (.isub, 1) := by decide +kernel
theorem dX10_reaches_23 : decode cX10_reaches 23 = .ok (.if_icmp .gt 7, 3) := by decide +kernel
theorem dX10_reaches_26 : decode cX10_reaches 26 = .ok (.iconst 1, 1) := by decide +kernel
theorem dX10_reaches_27 : decode cX10_reaches 27 = .ok (.goto 4, 3) := by decide +kernel
theorem dX10_reaches_30 : decode cX10_reaches 30 = .ok (.iconst 0, 1) := by decide +kernel
theorem dX10_reaches_31 : decode cX10_reaches 31 = .ok (.ireturn, 1) := by decide +kernel
theorem dX10_store_0 : decode cX10_store 0 = .ok (.aload_n 0, 1) := by decide +kernel
theorem dX10_store_1 : decode cX10_store 1 = .ok (.getfield 19, 3) := by decide +kernel
theorem dX10_store_4 : decode cX10_store 4 = .ok (.tableswitch 80 0 3 #[32, 45, 58, 70], 32) := by decide +kernel
theorem dX10_store_36 : decode cX10_store 36 = .ok (.aload_n 0, 1) := by decide +kernel
theorem dX10_store_37 : decode cX10_store 37 = .ok (.getfield 11, 3) := by decide +kernel
theorem dX10_store_40 : decode cX10_store 40 = .ok (.iload_n 1, 1) := by decide +kernel
theorem dX10_store_41 : decode cX10_store 41 = .ok (.lload_n 2, 1) := by decide +kernel
theorem dX10_store_42 : decode cX10_store 42 = .ok (.l2i, 1) := by decide +kernel
theorem dX10_store_43 : decode cX10_store 43 = .ok (.i2b, 1) := by decide +kernel
theorem dX10_store_44 : decode cX10_store 44 = .ok (.i2l, 1) := by decide +kernel
theorem dX10_store_45 : decode cX10_store 45 = .ok (.lastore, 1) := by decide +kernel
theorem dX10_store_46 : decode cX10_store 46 = .ok (.goto 55, 3) := by decide +kernel
theorem dX10_store_49 : decode cX10_store 49 = .ok (.aload_n 0, 1) := by decide +kernel
theorem dX10_store_50 : decode cX10_store 50 = .ok (.getfield 11, 3) := by decide +kernel
theorem dX10_store_53 : decode cX10_store 53 = .ok (.iload_n 1, 1) := by decide +kernel
theorem dX10_store_54 : decode cX10_store 54 = .ok (.lload_n 2, 1) := by decide +kernel
theorem dX10_store_55 : decode cX10_store 55 = .ok (.l2i, 1) := by decide +kernel
theorem dX10_store_56 : decode cX10_store 56 = .ok (.i2s, 1) := by decide +kernel
theorem dX10_store_57 : decode cX10_store 57 = .ok (.i2l, 1) := by decide +kernel
theorem dX10_store_58 : decode cX10_store 58 = .ok (.lastore, 1) := by decide +kernel
theorem dX10_store_59 : decode cX10_store 59 = .ok (.goto 42, 3) := by decide +kernel
theorem dX10_store_62 : decode cX10_store 62 = .ok (.aload_n 0, 1) := by decide +kernel
theorem dX10_store_63 : decode cX10_store 63 = .ok (.getfield 11, 3) := by decide +kernel
theorem dX10_store_66 : decode cX10_store 66 = .ok (.iload_n 1, 1) := by decide +kernel
theorem dX10_store_67 : decode cX10_store 67 = .ok (.lload_n 2, 1) := by decide +kernel
theorem dX10_store_68 : decode cX10_store 68 = .ok (.l2i, 1) := by decide +kernel
theorem dX10_store_69 : decode cX10_store 69 = .ok (.i2l, 1) := by decide +kernel
theorem dX10_store_70 : decode cX10_store 70 = .ok (.lastore, 1) := by decide +kernel
theorem dX10_store_71 : decode cX10_store 71 = .ok (.goto 30, 3) := by decide +kernel
theorem dX10_store_74 : decode cX10_store 74 = .ok (.aload_n 0, 1) := by decide +kernel
theorem dX10_store_75 : decode cX10_store 75 = .ok (.getfield 11, 3) := by decide +kernel
theorem dX10_store_78 : decode cX10_store 78 = .ok (.iload_n 1, 1) := by decide +kernel
theorem dX10_store_79 : decode cX10_store 79 = .ok (.lload_n 2, 1) := by decide +kernel
theorem dX10_store_80 : decode cX10_store 80 = .ok (.lastore, 1) := by decide +kernel
theorem dX10_store_81 : decode cX10_store 81 = .ok (.goto 20, 3) := by decide +kernel
theorem dX10_store_84 : decode cX10_store 84 = .ok (.aload_n 0, 1) := by decide +kernel
theorem dX10_store_85 : decode cX10_store 85 = .ok (.getfield 11, 3) := by decide +kernel
theorem dX10_store_88 : decode cX10_store 88 = .ok (.iload_n 1, 1) := by decide +kernel
theorem dX10_store_89 : decode cX10_store 89 = .ok (.lload_n 2, 1) := by decide +kernel
theorem dX10_store_90 : decode cX10_store 90 = .ok (.lconst 0, 1) := by decide +kernel
theorem dX10_store_91 : decode cX10_store 91 = .ok (.lcmp, 1) := by decide +kernel
theorem dX10_store_92 : decode cX10_store 92 = .ok (.ifCond .eq 7, 3) := by decide +kernel
theorem dX10_store_95 : decode cX10_store 95 = .ok (.lconst 1, 1) := by decide +kernel
theorem dX10_store_96 : decode cX10_store 96 = .ok (.goto 4, 3) := by decide +kernel
theorem dX10_store_99 : decode cX10_store 99 = .ok (.lconst 0, 1) := by decide +kernel
theorem dX10_store_100 : decode cX10_store 100 = .ok (.lastore, 1) := by decide +kernel
theorem dX10_store_101 : decode cX10_store 101 = .ok (.return_, 1) := by decide +kernel
theorem dX10_moveAt_0 : decode cX10_moveAt 0 = .ok (.iload_n 1, 1) := by decide +kernel
theorem dX10_moveAt_1 : decode cX10_moveAt 1 = .ok (.ifCond .lt 35, 3) := by decide +kernel
theorem dX10_moveAt_4 : decode cX10_moveAt 4 = .ok (.iload_n 1, 1) := by decide +kernel
theorem dX10_moveAt_5 : decode cX10_moveAt 5 = .ok (.aload_n 0, 1) := by decide +kernel
theorem dX10_moveAt_6 : decode cX10_moveAt 6 = .ok (.getfield 25, 3) := by decide +kernel
theorem dX10_moveAt_9 : decode cX10_moveAt 9 = .ok (.if_icmp .ge 27, 3) := by decide +kernel
theorem dX10_moveAt_12 : decode cX10_moveAt 12 = .ok (.aload_n 0, 1) := by decide +kernel
theorem dX10_moveAt_13 : decode cX10_moveAt 13 = .ok (.getfield 11, 3) := by decide +kernel
theorem dX10_moveAt_16 : decode cX10_moveAt 16 = .ok (.iload_n 1, 1) := by decide +kernel
theorem dX10_moveAt_17 : decode cX10_moveAt 17 = .ok (.laload, 1) := by decide +kernel
theorem dX10_moveAt_18 : decode cX10_moveAt 18 = .ok (.lconst 0, 1) := by decide +kernel
theorem dX10_moveAt_19 : decode cX10_moveAt 19 = .ok (.lcmp, 1) := by decide +kernel
theorem dX10_moveAt_20 : decode cX10_moveAt 20 = .ok (.ifCond .lt 16, 3) := by decide +kernel
theorem dX10_moveAt_23 : decode cX10_moveAt 23 = .ok (.aload_n 0, 1) := by decide +kernel
theorem dX10_moveAt_24 : decode cX10_moveAt 24 = .ok (.getfield 11, 3) := by decide +kernel
theorem dX10_moveAt_27 : decode cX10_moveAt 27 = .ok (.iload_n 1, 1) := by decide +kernel
theorem dX10_moveAt_28 : decode cX10_moveAt 28 = .ok (.laload, 1) := by decide +kernel
theorem dX10_moveAt_29 : decode cX10_moveAt 29 = .ok (.ldc2_w 34, 3) := by decide +kernel
theorem dX10_moveAt_32 : decode cX10_moveAt 32 = .ok (.lcmp, 1) := by decide +kernel
theorem dX10_moveAt_33 : decode cX10_moveAt 33 = .ok (.ifCond .le 5, 3) := by decide +kernel
theorem dX10_moveAt_36 : decode cX10_moveAt 36 = .ok (.iconst 0, 1) := by decide +kernel
theorem dX10_moveAt_37 : decode cX10_moveAt 37 = .ok (.ireturn, 1) := by decide +kernel
theorem dX10_moveAt_38 : decode cX10_moveAt 38 = .ok (.aload_n 0, 1) := by decide +kernel
theorem dX10_moveAt_39 : decode cX10_moveAt 39 = .ok (.getfield 11, 3) := by decide +kernel
theorem dX10_moveAt_42 : decode cX10_moveAt 42 = .ok (.iload_n 1, 1) := by decide +kernel
theorem dX10_moveAt_43 : decode cX10_moveAt 43 = .ok (.laload, 1) := by decide +kernel
theorem dX10_moveAt_44 : decode cX10_moveAt 44 = .ok (.l2i, 1) := by decide +kernel
theorem dX10_moveAt_45 : decode cX10_moveAt 45 = .ok (.ireturn, 1) := by decide +kernel
theorem dX11_init_0 : decode cX11_init 0 = .ok (.aload_n 0, 1) := by decide +kernel
theorem dX11_init_1 : decode cX11_init 1 = .ok (.invokespecial 1, 3) := by decide +kernel
theorem dX11_init_4 : decode cX11_init 4 = .ok (.aload_n 0, 1) := by decide +kernel
theorem dX11_init_5 : decode cX11_init 5 = .ok (.new 7, 3) := by decide +kernel
theorem dX11_init_8 : decode cX11_init 8 = .ok (.dup, 1) := by decide +kernel
theorem dX11_init_9 : decode cX11_init 9 = .ok (.invokespecial 9, 3) := by decide +kernel
theorem dX11_init_12 : decode cX11_init 12 = .ok (.putfield 10, 3) := by decide +kernel
theorem dX11_init_15 : decode cX11_init 15 = .ok (.aload_n 0, 1) := by decide +kernel
theorem dX11_init_16 : decode cX11_init 16 = .ok (.new 16, 3) := by decide +kernel
theorem dX11_init_19 : decode cX11_init 19 = .ok (.dup, 1) := by decide +kernel
theorem dX11_init_20 : decode cX11_init 20 = .ok (.invokespecial 18, 3) := by decide +kernel
theorem dX11_init_23 : decode cX11_init 23 = .ok (.putfield 19, 3) := by decide +kernel
theorem dX11_init_26 : decode cX11_init 26 = .ok (.aload_n 0, 1) := by decide +kernel
theorem dX11_init_27 : decode cX11_init 27 = .ok (.new 23, 3) := by decide +kernel
theorem dX11_init_30 : decode cX11_init 30 = .ok (.dup, 1) := by decide +kernel
theorem dX11_init_31 : decode cX11_init 31 = .ok (.invokespecial 25, 3) := by decide +kernel
theorem dX11_init_34 : decode cX11_init 34 = .ok (.putfield 26, 3) := by decide +kernel
theorem dX11_init_37 : decode cX11_init 37 = .ok (.aload_n 0, 1) := by decide +kernel
theorem dX11_init_38 : decode cX11_init 38 = .ok (.new 30, 3) := by decide +kernel
theorem dX11_init_41 : decode cX11_init 41 = .ok (.dup, 1) := by decide +kernel
theorem dX11_init_42 : decode cX11_init 42 = .ok (.invokespecial 32, 3) := by decide +kernel
theorem dX11_init_45 : decode cX11_init 45 = .ok (.putfield 33, 3) := by decide +kernel
theorem dX11_init_48 : decode cX11_init 48 = .ok (.aload_n 0, 1) := by decide +kernel
theorem dX11_init_49 : decode cX11_init 49 = .ok (.new 37, 3) := by decide +kernel
theorem dX11_init_52 : decode cX11_init 52 = .ok (.dup, 1) := by decide +kernel
theorem dX11_init_53 : decode cX11_init 53 = .ok (.invokespecial 39, 3) := by decide +kernel
theorem dX11_init_56 : decode cX11_init 56 = .ok (.putfield 40, 3) := by decide +kernel
theorem dX11_init_59 : decode cX11_init 59 = .ok (.aload_n 0, 1) := by decide +kernel
theorem dX11_init_60 : decode cX11_init 60 = .ok (.new 44, 3) := by decide +kernel
theorem dX11_init_63 : decode cX11_init 63 = .ok (.dup, 1) := by decide +kernel
theorem dX11_init_64 : decode cX11_init 64 = .ok (.invokespecial 46, 3) := by decide +kernel
theorem dX11_init_67 : decode cX11_init 67 = .ok (.putfield 47, 3) := by decide +kernel
theorem dX11_init_70 : decode cX11_init 70 = .ok (.aload_n 0, 1) := by decide +kernel
theorem dX11_init_71 : decode cX11_init 71 = .ok (.new 51, 3) := by decide +kernel
theorem dX11_init_74 : decode cX11_init 74 = .ok (.dup, 1) := by decide +kernel
theorem dX11_init_75 : decode cX11_init 75 = .ok (.invokespecial 53, 3) := by decide +kernel
theorem dX11_init_78 : decode cX11_init 78 = .ok (.putfield 54, 3) := by decide +kernel
theorem dX11_init_81 : decode cX11_init 81 = .ok (.aload_n 0, 1) := by decide +kernel
theorem dX11_init_82 : decode cX11_init 82 = .ok (.new 58, 3) := by decide +kernel
theorem dX11_init_85 : decode cX11_init 85 = .ok (.dup, 1) := by decide +kernel
theorem dX11_init_86 : decode cX11_init 86 = .ok (.invokespecial 60, 3) := by decide +kernel
theorem dX11_init_89 : decode cX11_init 89 = .ok (.putfield 61, 3) := by decide +kernel
theorem dX11_init_92 : decode cX11_init 92 = .ok (.aload_n 0, 1) := by decide +kernel
theorem dX11_init_93 : decode cX11_init 93 = .ok (.bipush 6, 2) := by decide +kernel
theorem dX11_init_95 : decode cX11_init 95 = .ok (.anewarray 65, 3) := by decide +kernel
theorem dX11_init_98 : decode cX11_init 98 = .ok (.putfield 67, 3) := by decide +kernel
theorem dX11_init_101 : decode cX11_init 101 = .ok (.aload_n 0, 1) := by decide +kernel
theorem dX11_init_102 : decode cX11_init 102 = .ok (.new 71, 3) := by decide +kernel
theorem dX11_init_105 : decode cX11_init 105 = .ok (.dup, 1) := by decide +kernel
theorem dX11_init_106 : decode cX11_init 106 = .ok (.invokespecial 73, 3) := by decide +kernel
theorem dX11_init_109 : decode cX11_init 109 = .ok (.putfield 74, 3) := by decide +kernel
theorem dX11_init_112 : decode cX11_init 112 = .ok (.iconst 0, 1) := by decide +kernel
theorem dX11_init_113 : decode cX11_init 113 = .ok (.istore_n 1, 1) := by decide +kernel
theorem dX11_init_114 : decode cX11_init 114 = .ok (.iload_n 1, 1) := by decide +kernel
theorem dX11_init_115 : decode cX11_init 115 = .ok (.bipush 6, 2) := by decide +kernel
theorem dX11_init_117 : decode cX11_init 117 = .ok (.if_icmp .ge 22, 3) := by decide +kernel
theorem dX11_init_120 : decode cX11_init 120 = .ok (.aload_n 0, 1) := by decide +kernel
theorem dX11_init_121 : decode cX11_init 121 = .ok (.getfield 67, 3) := by decide +kernel
theorem dX11_init_124 : decode cX11_init 124 = .ok (.iload_n 1, 1) := by decide +kernel
theorem dX11_init_125 : decode cX11_init 125 = .ok (.new 65, 3) := by decide +kernel
theorem dX11_init_128 : decode cX11_init 128 = .ok (.dup, 1) := by decide +kernel
theorem dX11_init_129 : decode cX11_init 129 = .ok (.invokespecial 78, 3) := by decide +kernel
theorem dX11_init_132 : decode cX11_init 132 = .ok (.aastore, 1) := by decide +kernel
theorem dX11_init_133 : decode cX11_init 133 = .ok (.iinc 1 1, 3) := by decide +kernel
theorem dX11_init_136 : decode cX11_init 136 = .ok (.goto (-22), 3) := by decide +kernel
theorem dX11_init_139 : decode cX11_init 139 = .ok (.return_, 1) := by decide +kernel
theorem dX11_defender_0 : decode cX11_defender 0 = .ok (.iload_n 1, 1) := by decide +kernel
theorem dX11_defender_1 : decode cX11_defender 1 = .ok (.iconst 1, 1) := by decide +kernel
theorem dX11_defender_2 : decode cX11_defender 2 = .ok (.invokestatic 79, 3) := by decide +kernel
theorem dX11_defender_5 : decode cX11_defender 5 = .ok (.ifCond .eq 16, 3) := by decide +kernel
theorem dX11_defender_8 : decode cX11_defender 8 = .ok (.iload_n 2, 1) := by decide +kernel
theorem dX11_defender_9 : decode cX11_defender 9 = .ok (.ifCond .lt 12, 3) := by decide +kernel
theorem dX11_defender_12 : decode cX11_defender 12 = .ok (.iload_n 2, 1) := by decide +kernel
theorem dX11_defender_13 : decode cX11_defender 13 = .ok (.getstatic 83, 3) := by decide +kernel
theorem dX11_defender_16 : decode cX11_defender 16 = .ok (.iconst 2, 1) := by decide +kernel
theorem dX11_defender_17 : decode cX11_defender 17 = .ok (.iaload, 1) := by decide +kernel
theorem dX11_defender_18 : decode cX11_defender 18 = .ok (.if_icmp .le 5, 3) := by decide +kernel
theorem dX11_defender_21 : decode cX11_defender 21 = .ok (.iconst (-1), 1) := by decide +kernel
theorem dX11_defender_22 : decode cX11_defender 22 = .ok (.ireturn, 1) := by decide +kernel
theorem dX11_defender_23 : decode cX11_defender 23 = .ok (.aload_n 0, 1) := by decide +kernel
theorem dX11_defender_24 : decode cX11_defender 24 = .ok (.getfield 10, 3) := by decide +kernel
theorem dX11_defender_27 : decode cX11_defender 27 = .ok (.invokevirtual 87, 3) := by decide +kernel
theorem dX11_defender_30 : decode cX11_defender 30 = .ok (.ifCond .eq 8, 3) := by decide +kernel
theorem dX11_defender_33 : decode cX11_defender 33 = .ok (.bipush (-3), 2) := by decide +kernel
theorem dX11_defender_35 : decode cX11_defender 35 = .ok (.goto 19, 3) := by decide +kernel
theorem dX11_defender_38 : decode cX11_defender 38 = .ok (.aload_n 0, 1) := by decide +kernel
theorem dX11_defender_39 : decode cX11_defender 39 = .ok (.getfield 10, 3) := by decide +kernel
theorem dX11_defender_42 : decode cX11_defender 42 = .ok (.iload_n 1, 1) := by decide +kernel
theorem dX11_defender_43 : decode cX11_defender 43 = .ok (.bipush 10, 2) := by decide +kernel
theorem dX11_defender_45 : decode cX11_defender 45 = .ok (.irem, 1) := by decide +kernel
theorem dX11_defender_46 : decode cX11_defender 46 = .ok (.iload_n 1, 1) := by decide +kernel
theorem dX11_defender_47 : decode cX11_defender 47 = .ok (.bipush 10, 2) := by decide +kernel
theorem dX11_defender_49 : decode cX11_defender 49 = .ok (.idiv, 1) := by decide +kernel
theorem dX11_defender_50 : decode cX11_defender 50 = .ok (.iload_n 2, 1) := by decide +kernel
theorem dX11_defender_51 : decode cX11_defender 51 = .ok (.invokevirtual 91, 3) := by decide +kernel
theorem dX11_defender_54 : decode cX11_defender 54 = .ok (.ireturn, 1) := by decide +kernel
theorem dX11_defenders_0 : decode cX11_defenders 0 = .ok (.iload_n 1, 1) := by decide +kernel
theorem dX11_defenders_1 : decode cX11_defenders 1 = .ok (.invokestatic 95, 3) := by decide +kernel
theorem dX11_defenders_4 : decode cX11_defenders 4 = .ok (.ifCond .ne 14, 3) := by decide +kernel
theorem dX11_defenders_7 : decode cX11_defenders 7 = .ok (.iload_n 3, 1) := by decide +kernel
theorem dX11_defenders_8 : decode cX11_defenders 8 = .ok (.iconst 1, 1) := by decide +kernel
theorem dX11_defenders_9 : decode cX11_defenders 9 = .ok (.if_icmp .lt 9, 3) := by decide +kernel
theorem dX11_defenders_12 : decode cX11_defenders 12 = .ok (.iload_n 3, 1) := by decide +kernel
theorem dX11_defenders_13 : decode cX11_defenders 13 = .ok (.bipush 7, 2) := by decide +kernel
theorem dX11_defenders_15 : decode cX11_defenders 15 = .ok (.if_icmp .le 5, 3) := by decide +kernel
theorem dX11_defenders_18 : decode cX11_defenders 18 = .ok (.iconst (-1), 1) := by decide +kernel
theorem dX11_defenders_19 : decode cX11_defenders 19 = .ok (.ireturn, 1) := by decide +kernel
theorem dX11_defenders_20 : decode cX11_defenders 20 = .ok (.aload_n 0, 1) := by decide +kernel
theorem dX11_defenders_21 : decode cX11_defenders 21 = .ok (.getfield 67, 3) := by decide +kernel
theorem dX11_defenders_24 : decode cX11_defenders 24 = .ok (.iload_n 1, 1) := by decide +kernel
theorem dX11_defenders_25 : decode cX11_defenders 25 = .ok (.aaload, 1) := by decide +kernel
theorem dX11_defenders_26 : decode cX11_defenders 26 = .ok (.astore 4, 2) := by decide +kernel
theorem dX11_defenders_28 : decode cX11_defenders 28 = .ok (.aload 4, 2) := by decide +kernel
theorem dX11_defenders_30 : decode cX11_defenders 30 = .ok (.invokevirtual 99, 3) := by decide +kernel
theorem dX11_defenders_33 : decode cX11_defenders 33 = .ok (.ifCond .eq 5, 3) := by decide +kernel
theorem dX11_defenders_36 : decode cX11_defenders 36 = .ok (.iconst 0, 1) := by decide +kernel
theorem dX11_defenders_37 : decode cX11_defenders 37 = .ok (.ireturn, 1) := by decide +kernel
theorem dX11_defenders_38 : decode cX11_defenders 38 = .ok (.aload 4, 2) := by decide +kernel
theorem dX11_defenders_40 : decode cX11_defenders 40 = .ok (.invokevirtual 102, 3) := by decide +kernel
theorem dX11_defenders_43 : decode cX11_defenders 43 = .ok (.ifCond .eq 14, 3) := by decide +kernel
theorem dX11_defenders_46 : decode cX11_defenders 46 = .ok (.aload_n 0, 1) := by decide +kernel
theorem dX11_defenders_47 : decode cX11_defenders 47 = .ok (.aload 4, 2) := by decide +kernel
theorem dX11_defenders_49 : decode cX11_defenders 49 = .ok (.iload_n 2, 1) := by decide +kernel
theorem dX11_defenders_50 : decode cX11_defenders 50 = .ok (.iload_n 3, 1) := by decide +kernel
theorem dX11_defenders_51 : decode cX11_defenders 51 = .ok (.invokevirtual 105, 3) := by decide +kernel
theorem dX11_defenders_54 : decode cX11_defenders 54 = .ok (.goto 5, 3) := by decide +kernel
theorem dX11_defenders_57 : decode cX11_defenders 57 = .ok (.bipush (-12), 2) := by decide +kernel
theorem dX11_defenders_59 : decode cX11_defenders 59 = .ok (.ireturn, 1) := by decide +kernel
theorem dX11_mend_0 : decode cX11_mend 0 = .ok (.aload_n 0, 1) := by decide +kernel
theorem dX11_mend_1 : decode cX11_mend 1 = .ok (.getfield 10, 3) := by decide +kernel
theorem dX11_mend_4 : decode cX11_mend 4 = .ok (.iload_n 1, 1) := by decide +kernel
theorem dX11_mend_5 : decode cX11_mend 5 = .ok (.iload_n 2, 1) := by decide +kernel
theorem dX11_mend_6 : decode cX11_mend 6 = .ok (.invokevirtual 109, 3) := by decide +kernel
theorem dX11_mend_9 : decode cX11_mend 9 = .ok (.ifCond .eq 21, 3) := by decide +kernel
theorem dX11_mend_12 : decode cX11_mend 12 = .ok (.iload_n 3, 1) := by decide +kernel
theorem dX11_mend_13 : decode cX11_mend 13 = .ok (.getstatic 112, 3) := by decide +kernel
theorem dX11_mend_16 : decode cX11_mend 16 = .ok (.iload_n 2, 1) := by decide +kernel
theorem dX11_mend_17 : decode cX11_mend 17 = .ok (.iaload, 1) := by decide +kernel
theorem dX11_mend_18 : decode cX11_mend 18 = .ok (.if_icmp .lt 12, 3) := by decide +kernel
theorem dX11_mend_21 : decode cX11_mend 21 = .ok (.iload_n 3, 1) := by decide +kernel
theorem dX11_mend_22 : decode cX11_mend 22 = .ok (.getstatic 83, 3) := by decide +kernel
theorem dX11_mend_25 : decode cX11_mend 25 = .ok (.iload_n 2, 1) := by decide +kernel
theorem dX11_mend_26 : decode cX11_mend 26 = .ok (.iaload, 1) := by decide +kernel
theorem dX11_mend_27 : decode cX11_mend 27 = .ok (.if_icmp .le 5, 3) := by decide +kernel
theorem dX11_mend_30 : decode cX11_mend 30 = .ok (.iconst (-1), 1) := by decide +kernel
theorem dX11_mend_31 : decode cX11_mend 31 = .ok (.ireturn, 1) := by decide +kernel
theorem dX11_mend_32 : decode cX11_mend 32 = .ok (.aload_n 0, 1) := by decide +kernel
theorem dX11_mend_33 : decode cX11_mend 33 = .ok (.getfield 10, 3) := by decide +kernel
theorem dX11_mend_36 : decode cX11_mend 36 = .ok (.iload_n 1, 1) := by decide +kernel
theorem dX11_mend_37 : decode cX11_mend 37 = .ok (.iload_n 2, 1) := by decide +kernel
theorem dX11_mend_38 : decode cX11_mend 38 = .ok (.invokevirtual 115, 3) := by decide +kernel
theorem dX11_mend_41 : decode cX11_mend 41 = .ok (.istore 4, 2) := by decide +kernel
theorem dX11_mend_43 : decode cX11_mend 43 = .ok (.iload 4, 2) := by decide +kernel
theorem dX11_mend_45 : decode cX11_mend 45 = .ok (.iload_n 3, 1) := by decide +kernel
theorem dX11_mend_46 : decode cX11_mend 46 = .ok (.if_icmp .eq 25, 3) := by decide +kernel
theorem dX11_mend_49 : decode cX11_mend 49 = .ok (.aload_n 0, 1) := by decide +kernel
theorem dX11_mend_50 : decode cX11_mend 50 = .ok (.getfield 10, 3) := by decide +kernel
theorem dX11_mend_53 : decode cX11_mend 53 = .ok (.iload_n 1, 1) := by decide +kernel
theorem dX11_mend_54 : decode cX11_mend 54 = .ok (.iload_n 2, 1) := by decide +kernel
theorem dX11_mend_55 : decode cX11_mend 55 = .ok (.iload_n 3, 1) := by decide +kernel
theorem dX11_mend_56 : decode cX11_mend 56 = .ok (.invokevirtual 119, 3) := by decide +kernel
theorem dX11_mend_59 : decode cX11_mend 59 = .ok (.aload_n 0, 1) := by decide +kernel
theorem dX11_mend_60 : decode cX11_mend 60 = .ok (.getfield 54, 3) := by decide +kernel
theorem dX11_mend_63 : decode cX11_mend 63 = .ok (.iload_n 1, 1) := by decide +kernel
theorem dX11_mend_64 : decode cX11_mend 64 = .ok (.iload_n 2, 1) := by decide +kernel
theorem dX11_mend_65 : decode cX11_mend 65 = .ok (.iload 4, 2) := by decide +kernel
theorem dX11_mend_67 : decode cX11_mend 67 = .ok (.iload_n 3, 1) := by decide +kernel
theorem dX11_mend_68 : decode cX11_mend 68 = .ok (.invokevirtual 123, 3) := by decide +kernel
theorem dX11_mend_71 : decode cX11_mend 71 = .ok (.iload 4, 2) := by decide +kernel
theorem dX11_mend_73 : decode cX11_mend 73 = .ok (.ireturn, 1) := by decide +kernel
theorem dX11_of_0 : decode cX11_of 0 = .ok (.aload_n 0, 1) := by decide +kernel
theorem dX11_of_1 : decode cX11_of 1 = .ok (.getfield 10, 3) := by decide +kernel
theorem dX11_of_4 : decode cX11_of 4 = .ok (.iload_n 1, 1) := by decide +kernel
theorem dX11_of_5 : decode cX11_of 5 = .ok (.iload_n 2, 1) := by decide +kernel
theorem dX11_of_6 : decode cX11_of 6 = .ok (.invokevirtual 109, 3) := by decide +kernel
theorem dX11_of_9 : decode cX11_of 9 = .ok (.ifCond .eq 15, 3) := by decide +kernel
theorem dX11_of_12 : decode cX11_of 12 = .ok (.aload_n 0, 1) := by decide +kernel
theorem dX11_of_13 : decode cX11_of 13 = .ok (.getfield 10, 3) := by decide +kernel
theorem dX11_of_16 : decode cX11_of 16 = .ok (.iload_n 1, 1) := by decide +kernel
theorem dX11_of_17 : decode cX11_of 17 = .ok (.iload_n 2, 1) := by decide +kernel
theorem dX11_of_18 : decode cX11_of 18 = .ok (.invokevirtual 115, 3) := by decide +kernel
theorem dX11_of_21 : decode cX11_of 21 = .ok (.goto 4, 3) := by decide +kernel
theorem dX11_of_24 : decode cX11_of 24 = .ok (.iconst (-1), 1) := by decide +kernel
theorem dX11_of_25 : decode cX11_of 25 = .ok (.ireturn, 1) := by decide +kernel
theorem dX11_feed_0 : decode cX11_feed 0 = .ok (.iload_n 1, 1) := by decide +kernel
theorem dX11_feed_1 : decode cX11_feed 1 = .ok (.ifCond .lt 10, 3) := by decide +kernel
theorem dX11_feed_4 : decode cX11_feed 4 = .ok (.iload_n 1, 1) := by decide +kernel
theorem dX11_feed_5 : decode cX11_feed 5 = .ok (.sipush 255, 3) := by decide +kernel
theorem dX11_feed_8 : decode cX11_feed 8 = .ok (.if_icmp .le 5, 3) := by decide +kernel
theorem dX11_feed_11 : decode cX11_feed 11 = .ok (.iconst (-1), 1) := by decide +kernel
theorem dX11_feed_12 : decode cX11_feed 12 = .ok (.ireturn, 1) := by decide +kernel
theorem dX11_feed_13 : decode cX11_feed 13 = .ok (.aload_n 0, 1) := by decide +kernel
theorem dX11_feed_14 : decode cX11_feed 14 = .ok (.getfield 74, 3) := by decide +kernel
theorem dX11_feed_17 : decode cX11_feed 17 = .ok (.invokevirtual 127, 3) := by decide +kernel
theorem dX11_feed_20 : decode cX11_feed 20 = .ok (.ifCond .eq 8, 3) := by decide +kernel
theorem dX11_feed_23 : decode cX11_feed 23 = .ok (.bipush (-3), 2) := by decide +kernel
theorem dX11_feed_25 : decode cX11_feed 25 = .ok (.goto 11, 3) := by decide +kernel
theorem dX11_feed_28 : decode cX11_feed 28 = .ok (.aload_n 0, 1) := by decide +kernel
theorem dX11_feed_29 : decode cX11_feed 29 = .ok (.getfield 74, 3) := by decide +kernel
theorem dX11_feed_32 : decode cX11_feed 32 = .ok (.iload_n 1, 1) := by decide +kernel
theorem dX11_feed_33 : decode cX11_feed 33 = .ok (.invokevirtual 128, 3) := by decide +kernel
theorem dX11_feed_36 : decode cX11_feed 36 = .ok (.ireturn, 1) := by decide +kernel
theorem dX11_law_0 : decode cX11_law 0 = .ok (.aload_n 0, 1) := by decide +kernel
theorem dX11_law_1 : decode cX11_law 1 = .ok (.getfield 74, 3) := by decide +kernel
theorem dX11_law_4 : decode cX11_law 4 = .ok (.invokevirtual 131, 3) := by decide +kernel
theorem dX11_law_7 : decode cX11_law 7 = .ok (.istore_n 1, 1) := by decide +kernel
theorem dX11_law_8 : decode cX11_law 8 = .ok (.iload_n 1, 1) := by decide +kernel
theorem dX11_law_9 : decode cX11_law 9 = .ok (.ifCond .lt 8, 3) := by decide +kernel
theorem dX11_law_12 : decode cX11_law 12 = .ok (.bipush (-100), 2) := by decide +kernel
theorem dX11_law_14 : decode cX11_law 14 = .ok (.iload_n 1, 1) := by decide +kernel
theorem dX11_law_15 : decode cX11_law 15 = .ok (.isub, 1) := by decide +kernel
theorem dX11_law_16 : decode cX11_law 16 = .ok (.ireturn, 1) := by decide +kernel
theorem dX11_law_17 : decode cX11_law 17 = .ok (.aload_n 0, 1) := by decide +kernel
theorem dX11_law_18 : decode cX11_law 18 = .ok (.getfield 74, 3) := by decide +kernel
theorem dX11_law_21 : decode cX11_law 21 = .ok (.aload_n 0, 1) := by decide +kernel
theorem dX11_law_22 : decode cX11_law 22 = .ok (.getfield 10, 3) := by decide +kernel
theorem dX11_law_25 : decode cX11_law 25 = .ok (.aload_n 0, 1) := by decide +kernel
theorem dX11_law_26 : decode cX11_law 26 = .ok (.getfield 74, 3) := by decide +kernel
theorem dX11_law_29 : decode cX11_law 29 = .ok (.getfield 135, 3) := by decide +kernel
theorem dX11_law_32 : decode cX11_law 32 = .ok (.invokevirtual 139, 3) := by decide +kernel
theorem dX11_law_35 : decode cX11_law 35 = .ok (.putfield 135, 3) := by decide +kernel
theorem dX11_law_38 : decode cX11_law 38 = .ok (.iconst 1, 1) := by decide +kernel
theorem dX11_law_39 : decode cX11_law 39 = .ok (.ireturn, 1) := by decide +kernel
theorem dX11_does_0 : decode cX11_does 0 = .ok (.aload_n 0, 1) := by decide +kernel
theorem dX11_does_1 : decode cX11_does 1 = .ok (.getfield 10, 3) := by decide +kernel
theorem dX11_does_4 : decode cX11_does 4 = .ok (.iload_n 1, 1) := by decide +kernel
theorem dX11_does_5 : decode cX11_does 5 = .ok (.invokevirtual 143, 3) := by decide +kernel
theorem dX11_does_8 : decode cX11_does 8 = .ok (.ifCond .eq 21, 3) := by decide +kernel
theorem dX11_does_11 : decode cX11_does 11 = .ok (.iload_n 2, 1) := by decide +kernel
theorem dX11_does_12 : decode cX11_does 12 = .ok (.iconst 0, 1) := by decide +kernel
theorem dX11_does_13 : decode cX11_does 13 = .ok (.invokestatic 79, 3) := by decide +kernel
theorem dX11_does_16 : decode cX11_does 16 = .ok (.ifCond .eq 13, 3) := by decide +kernel
theorem dX11_does_19 : decode cX11_does 19 = .ok (.iload_n 3, 1) := by decide +kernel
theorem dX11_does_20 : decode cX11_does 20 = .ok (.ifCond .lt 9, 3) := by decide +kernel
theorem dX11_does_23 : decode cX11_does 23 = .ok (.iload_n 3, 1) := by decide +kernel
theorem dX11_does_24 : decode cX11_does 24 = .ok (.bipush 99, 2) := by decide +kernel
theorem dX11_does_26 : decode cX11_does 26 = .ok (.if_icmp .le 5, 3) := by decide +kernel
theorem dX11_does_29 : decode cX11_does 29 = .ok (.iconst (-1), 1) := by decide +kernel
theorem dX11_does_30 : decode cX11_does 30 = .ok (.ireturn, 1) := by decide +kernel
theorem dX11_does_31 : decode cX11_does 31 = .ok (.aload_n 0, 1) := by decide +kernel
theorem dX11_does_32 : decode cX11_does 32 = .ok (.getfield 19, 3) := by decide +kernel
theorem dX11_does_35 : decode cX11_does 35 = .ok (.aload_n 0, 1) := by decide +kernel
theorem dX11_does_36 : decode cX11_does 36 = .ok (.getfield 10, 3) := by decide +kernel
theorem dX11_does_39 : decode cX11_does 39 = .ok (.invokevirtual 146, 3) := by decide +kernel
theorem dX11_does_42 : decode cX11_does 42 = .ok (.aload_n 0, 1) := by decide +kernel
theorem dX11_does_43 : decode cX11_does 43 = .ok (.getfield 19, 3) := by decide +kernel
theorem dX11_does_46 : decode cX11_does 46 = .ok (.iload_n 2, 1) := by decide +kernel
theorem dX11_does_47 : decode cX11_does 47 = .ok (.bipush 10, 2) := by decide +kernel
theorem dX11_does_49 : decode cX11_does 49 = .ok (.irem, 1) := by decide +kernel
theorem dX11_does_50 : decode cX11_does 50 = .ok (.putfield 150, 3) := by decide +kernel
theorem dX11_does_53 : decode cX11_does 53 = .ok (.aload_n 0, 1) := by decide +kernel
theorem dX11_does_54 : decode cX11_does 54 = .ok (.getfield 19, 3) := by decide +kernel
theorem dX11_does_57 : decode cX11_does 57 = .ok (.iload_n 2, 1) := by decide +kernel
theorem dX11_does_58 : decode cX11_does 58 = .ok (.bipush 10, 2) := by decide +kernel
theorem dX11_does_60 : decode cX11_does 60 = .ok (.idiv, 1) := by decide +kernel
theorem dX11_does_61 : decode cX11_does 61 = .ok (.putfield 154, 3) := by decide +kernel
theorem dX11_does_64 : decode cX11_does 64 = .ok (.aload_n 0, 1) := by decide +kernel
theorem dX11_does_65 : decode cX11_does 65 = .ok (.getfield 19, 3) := by decide +kernel
theorem dX11_does_68 : decode cX11_does 68 = .ok (.aload_n 0, 1) := by decide +kernel
theorem dX11_does_69 : decode cX11_does 69 = .ok (.getfield 10, 3) := by decide +kernel
theorem dX11_does_72 : decode cX11_does 72 = .ok (.iload_n 1, 1) := by decide +kernel
theorem dX11_does_73 : decode cX11_does 73 = .ok (.iload_n 3, 1) := by decide +kernel
theorem dX11_does_74 : decode cX11_does 74 = .ok (.invokevirtual 157, 3) := by decide +kernel
theorem dX11_does_77 : decode cX11_does 77 = .ok (.ireturn, 1) := by decide +kernel
theorem dX11_raid_0 : decode cX11_raid 0 = .ok (.iload_n 2, 1) := by decide +kernel
theorem dX11_raid_1 : decode cX11_raid 1 = .ok (.ifCond .lt 9, 3) := by decide +kernel
theorem dX11_raid_4 : decode cX11_raid 4 = .ok (.iload_n 2, 1) := by decide +kernel
theorem dX11_raid_5 : decode cX11_raid 5 = .ok (.bipush 6, 2) := by decide +kernel
theorem dX11_raid_7 : decode cX11_raid 7 = .ok (.if_icmp .le 5, 3) := by decide +kernel
theorem dX11_raid_10 : decode cX11_raid 10 = .ok (.iconst (-1), 1) := by decide +kernel
theorem dX11_raid_11 : decode cX11_raid 11 = .ok (.ireturn, 1) := by decide +kernel
theorem dX11_raid_12 : decode cX11_raid 12 = .ok (.aload_n 0, 1) := by decide +kernel
theorem dX11_raid_13 : decode cX11_raid 13 = .ok (.iload_n 1, 1) := by decide +kernel
theorem dX11_raid_14 : decode cX11_raid 14 = .ok (.invokevirtual 161, 3) := by decide +kernel
theorem dX11_raid_17 : decode cX11_raid 17 = .ok (.istore_n 3, 1) := by decide +kernel
theorem dX11_raid_18 : decode cX11_raid 18 = .ok (.iload_n 3, 1) := by decide +kernel
theorem dX11_raid_19 : decode cX11_raid 19 = .ok (.ifCond .eq 5, 3) := by decide +kernel
theorem dX11_raid_22 : decode cX11_raid 22 = .ok (.iload_n 3, 1) := by decide +kernel
theorem dX11_raid_23 : decode cX11_raid 23 = .ok (.ireturn, 1) := by decide +kernel
theorem dX11_raid_24 : decode cX11_raid 24 = .ok (.aload_n 0, 1) := by decide +kernel
theorem dX11_raid_25 : decode cX11_raid 25 = .ok (.iload_n 1, 1) := by decide +kernel
theorem dX11_raid_26 : decode cX11_raid 26 = .ok (.invokevirtual 164, 3) := by decide +kernel
theorem dX11_raid_29 : decode cX11_raid 29 = .ok (.iload_n 2, 1) := by decide +kernel
theorem dX11_raid_30 : decode cX11_raid 30 = .ok (.tableswitch 90 0 5 #[38, 46, 54, 62, 74, 82], 38) := by decide +kernel
theorem dX11_raid_68 : decode cX11_raid 68 = .ok (.aload_n 0, 1) := by decide +kernel
theorem dX11_raid_69 : decode cX11_raid 69 = .ok (.getfield 19, 3) := by decide +kernel
theorem dX11_raid_72 : decode cX11_raid 72 = .ok (.getfield 168, 3) := by decide +kernel
theorem dX11_raid_75 : decode cX11_raid 75 = .ok (.ireturn, 1) := by decide +kernel
theorem dX11_raid_76 : decode cX11_raid 76 = .ok (.aload_n 0, 1) := by decide +kernel
theorem dX11_raid_77 : decode cX11_raid 77 = .ok (.getfield 19, 3) := by decide +kernel
theorem dX11_raid_80 : decode cX11_raid 80 = .ok (.getfield 171, 3) := by decide +kernel
theorem dX11_raid_83 : decode cX11_raid 83 = .ok (.ireturn, 1) := by decide +kernel
theorem dX11_raid_84 : decode cX11_raid 84 = .ok (.aload_n 0, 1) := by decide +kernel
theorem dX11_raid_85 : decode cX11_raid 85 = .ok (.getfield 19, 3) := by decide +kernel
theorem dX11_raid_88 : decode cX11_raid 88 = .ok (.invokevirtual 174, 3) := by decide +kernel
theorem dX11_raid_91 : decode cX11_raid 91 = .ok (.ireturn, 1) := by decide +kernel
theorem dX11_raid_92 : decode cX11_raid 92 = .ok (.aload_n 0, 1) := by decide +kernel
theorem dX11_raid_93 : decode cX11_raid 93 = .ok (.getfield 19, 3) := by decide +kernel
theorem dX11_raid_96 : decode cX11_raid 96 = .ok (.aload_n 0, 1) := by decide +kernel
theorem dX11_raid_97 : decode cX11_raid 97 = .ok (.getfield 10, 3) := by decide +kernel
theorem dX11_raid_100 : decode cX11_raid 100 = .ok (.invokevirtual 177, 3) := by decide +kernel
theorem dX11_raid_103 : decode cX11_raid 103 = .ok (.ireturn, 1) := by decide +kernel
theorem dX11_raid_104 : decode cX11_raid 104 = .ok (.aload_n 0, 1) := by decide +kernel
theorem dX11_raid_105 : decode cX11_raid 105 = .ok (.getfield 19, 3) := by decide +kernel
theorem dX11_raid_108 : decode cX11_raid 108 = .ok (.getfield 181, 3) := by decide +kernel
theorem dX11_raid_111 : decode cX11_raid 111 = .ok (.ireturn, 1) := by decide +kernel
theorem dX11_raid_112 : decode cX11_raid 112 = .ok (.aload_n 0, 1) := by decide +kernel
theorem dX11_raid_113 : decode cX11_raid 113 = .ok (.getfield 19, 3) := by decide +kernel
theorem dX11_raid_116 : decode cX11_raid 116 = .ok (.getfield 184, 3) := by decide +kernel
theorem dX11_raid_119 : decode cX11_raid 119 = .ok (.ireturn, 1) := by decide +kernel
theorem dX11_raid_120 : decode cX11_raid 120 = .ok (.aload_n 0, 1) := by decide +kernel
theorem dX11_raid_121 : decode cX11_raid 121 = .ok (.getfield 19, 3) := by decide +kernel
theorem dX11_raid_124 : decode cX11_raid 124 = .ok (.getfield 187, 3) := by decide +kernel
theorem dX11_raid_127 : decode cX11_raid 127 = .ok (.ireturn, 1) := by decide +kernel
theorem dX11_where_0 : decode cX11_where 0 = .ok (.iload_n 2, 1) := by decide +kernel
theorem dX11_where_1 : decode cX11_where 1 = .ok (.ifCond .lt 25, 3) := by decide +kernel
theorem dX11_where_4 : decode cX11_where 4 = .ok (.iload_n 2, 1) := by decide +kernel
theorem dX11_where_5 : decode cX11_where 5 = .ok (.bipush 60, 2) := by decide +kernel
theorem dX11_where_7 : decode cX11_where 7 = .ok (.if_icmp .gt 19, 3) := by decide +kernel
theorem dX11_where_10 : decode cX11_where 10 = .ok (.iload_n 3, 1) := by decide +kernel
theorem dX11_where_11 : decode cX11_where 11 = .ok (.iconst (-1), 1) := by decide +kernel
theorem dX11_where_12 : decode cX11_where 12 = .ok (.if_icmp .lt 14, 3) := by decide +kernel
theorem dX11_where_15 : decode cX11_where 15 = .ok (.iload_n 3, 1) := by decide +kernel
theorem dX11_where_16 : decode cX11_where 16 = .ok (.aload_n 0, 1) := by decide +kernel
theorem dX11_where_17 : decode cX11_where 17 = .ok (.getfield 10, 3) := by decide +kernel
theorem dX11_where_20 : decode cX11_where 20 = .ok (.getfield 190, 3) := by decide +kernel
theorem dX11_where_23 : decode cX11_where 23 = .ok (.if_icmp .lt 5, 3) := by decide +kernel
theorem dX11_where_26 : decode cX11_where 26 = .ok (.iconst (-1), 1) := by decide +kernel
theorem dX11_where_27 : decode cX11_where 27 = .ok (.ireturn, 1) := by decide +kernel
theorem dX11_where_28 : decode cX11_where 28 = .ok (.aload_n 0, 1) := by decide +kernel
theorem dX11_where_29 : decode cX11_where 29 = .ok (.iload_n 1, 1) := by decide +kernel
theorem dX11_where_30 : decode cX11_where 30 = .ok (.invokevirtual 161, 3) := by decide +kernel
theorem dX11_where_33 : decode cX11_where 33 = .ok (.istore 4, 2) := by decide +kernel
theorem dX11_where_35 : decode cX11_where 35 = .ok (.iload 4, 2) := by decide +kernel
theorem dX11_where_37 : decode cX11_where 37 = .ok (.ifCond .eq 6, 3) := by decide +kernel
theorem dX11_where_40 : decode cX11_where 40 = .ok (.iload 4, 2) := by decide +kernel
theorem dX11_where_42 : decode cX11_where 42 = .ok (.ireturn, 1) := by decide +kernel
theorem dX11_where_43 : decode cX11_where 43 = .ok (.aload_n 0, 1) := by decide +kernel
theorem dX11_where_44 : decode cX11_where 44 = .ok (.getfield 19, 3) := by decide +kernel
theorem dX11_where_47 : decode cX11_where 47 = .ok (.aload_n 0, 1) := by decide +kernel
theorem dX11_where_48 : decode cX11_where 48 = .ok (.getfield 10, 3) := by decide +kernel
theorem dX11_where_51 : decode cX11_where 51 = .ok (.invokevirtual 146, 3) := by decide +kernel
theorem dX11_where_54 : decode cX11_where 54 = .ok (.aload_n 0, 1) := by decide +kernel
theorem dX11_where_55 : decode cX11_where 55 = .ok (.getfield 19, 3) := by decide +kernel
theorem dX11_where_58 : decode cX11_where 58 = .ok (.aload_n 0, 1) := by decide +kernel
theorem dX11_where_59 : decode cX11_where 59 = .ok (.getfield 19, 3) := by decide +kernel
theorem dX11_where_62 : decode cX11_where 62 = .ok (.getfield 193, 3) := by decide +kernel
theorem dX11_where_65 : decode cX11_where 65 = .ok (.iload_n 2, 1) := by decide +kernel
theorem dX11_where_66 : decode cX11_where 66 = .ok (.invokestatic 196, 3) := by decide +kernel
theorem dX11_where_69 : decode cX11_where 69 = .ok (.putfield 193, 3) := by decide +kernel
theorem dX11_where_72 : decode cX11_where 72 = .ok (.aload_n 0, 1) := by decide +kernel
theorem dX11_where_73 : decode cX11_where 73 = .ok (.getfield 19, 3) := by decide +kernel
theorem dX11_where_76 : decode cX11_where 76 = .ok (.aload_n 0, 1) := by decide +kernel
theorem dX11_where_77 : decode cX11_where 77 = .ok (.getfield 10, 3) := by decide +kernel
theorem dX11_where_80 : decode cX11_where 80 = .ok (.aload_n 0, 1) := by decide +kernel
theorem dX11_where_81 : decode cX11_where 81 = .ok (.getfield 67, 3) := by decide +kernel
theorem dX11_where_84 : decode cX11_where 84 = .ok (.iload_n 1, 1) := by decide +kernel
theorem dX11_where_85 : decode cX11_where 85 = .ok (.aaload, 1) := by decide +kernel
theorem dX11_where_86 : decode cX11_where 86 = .ok (.invokevirtual 201, 3) := by decide +kernel
theorem dX11_where_89 : decode cX11_where 89 = .ok (.aload_n 0, 1) := by decide +kernel
theorem dX11_where_90 : decode cX11_where 90 = .ok (.getfield 19, 3) := by decide +kernel
theorem dX11_where_93 : decode cX11_where 93 = .ok (.iload_n 3, 1) := by decide +kernel
theorem dX11_where_94 : decode cX11_where 94 = .ok (.invokevirtual 205, 3) := by decide +kernel
theorem dX11_where_97 : decode cX11_where 97 = .ok (.ireturn, 1) := by decide +kernel
theorem dX11_best_0 : decode cX11_best 0 = .ok (.iload_n 1, 1) := by decide +kernel
theorem dX11_best_1 : decode cX11_best 1 = .ok (.iconst 1, 1) := by decide +kernel
theorem dX11_best_2 : decode cX11_best 2 = .ok (.if_icmp .lt 13, 3) := by decide +kernel
theorem dX11_best_5 : decode cX11_best 5 = .ok (.iload_n 1, 1) := by decide +kernel
theorem dX11_best_6 : decode cX11_best 6 = .ok (.iconst 5, 1) := by decide +kernel
theorem dX11_best_7 : decode cX11_best 7 = .ok (.if_icmp .gt 8, 3) := by decide +kernel
theorem dX11_best_10 : decode cX11_best 10 = .ok (.iload_n 2, 1) := by decide +kernel
theorem dX11_best_11 : decode cX11_best 11 = .ok (.iconst (-1), 1) := by decide +kernel
theorem dX11_best_12 : decode cX11_best 12 = .ok (.if_icmp .ge 6, 3) := by decide +kernel
