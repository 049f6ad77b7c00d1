theorem dX0_init_0 : decode cX0_init 0 = .ok (.aload_n 0, 1) := by decide +kernel
theorem dX0_init_1 : decode cX0_init 1 = .ok (.invokespecial 3, 3) := by decide +kernel
theorem dX0_init_4 : decode cX0_init 4 = .ok (.aload_n 0, 1) := by decide +kernel
theorem dX0_init_5 : decode cX0_init 5 = .ok (.bipush 99, 2) := by decide +kernel
theorem dX0_init_7 : decode cX0_init 7 = .ok (.putfield 9, 3) := by decide +kernel
theorem dX0_init_10 : decode cX0_init 10 = .ok (.aload_n 0, 1) := by decide +kernel
theorem dX0_init_11 : decode cX0_init 11 = .ok (.iconst 5, 1) := by decide +kernel
theorem dX0_init_12 : decode cX0_init 12 = .ok (.putfield 15, 3) := by decide +kernel
theorem dX0_init_15 : decode cX0_init 15 = .ok (.aload_n 0, 1) := by decide +kernel
theorem dX0_init_16 : decode cX0_init 16 = .ok (.bipush 8, 2) := by decide +kernel
theorem dX0_init_18 : decode cX0_init 18 = .ok (.newarray .int, 2) := by decide +kernel
theorem dX0_init_20 : decode cX0_init 20 = .ok (.putfield 18, 3) := by decide +kernel
theorem dX0_init_23 : decode cX0_init 23 = .ok (.aload_n 0, 1) := by decide +kernel
theorem dX0_init_24 : decode cX0_init 24 = .ok (.bipush 8, 2) := by decide +kernel
theorem dX0_init_26 : decode cX0_init 26 = .ok (.newarray .int, 2) := by decide +kernel
theorem dX0_init_28 : decode cX0_init 28 = .ok (.putfield 22, 3) := by decide +kernel
theorem dX0_init_31 : decode cX0_init 31 = .ok (.aload_n 0, 1) := by decide +kernel
theorem dX0_init_32 : decode cX0_init 32 = .ok (.bipush 40, 2) := by decide +kernel
theorem dX0_init_34 : decode cX0_init 34 = .ok (.newarray .int, 2) := by decide +kernel
theorem dX0_init_36 : decode cX0_init 36 = .ok (.putfield 25, 3) := by decide +kernel
theorem dX0_init_39 : decode cX0_init 39 = .ok (.return_, 1) := by decide +kernel
theorem dX0_clear_0 : decode cX0_clear 0 = .ok (.aload_n 0, 1) := by decide +kernel
theorem dX0_clear_1 : decode cX0_clear 1 = .ok (.iconst 0, 1) := by decide +kernel
theorem dX0_clear_2 : decode cX0_clear 2 = .ok (.putfield 28, 3) := by decide +kernel
theorem dX0_clear_5 : decode cX0_clear 5 = .ok (.aload_n 0, 1) := by decide +kernel
theorem dX0_clear_6 : decode cX0_clear 6 = .ok (.iconst 0, 1) := by decide +kernel
theorem dX0_clear_7 : decode cX0_clear 7 = .ok (.putfield 31, 3) := by decide +kernel
theorem dX0_clear_10 : decode cX0_clear 10 = .ok (.aload_n 0, 1) := by decide +kernel
theorem dX0_clear_11 : decode cX0_clear 11 = .ok (.bipush 99, 2) := by decide +kernel
theorem dX0_clear_13 : decode cX0_clear 13 = .ok (.putfield 9, 3) := by decide +kernel
theorem dX0_clear_16 : decode cX0_clear 16 = .ok (.aload_n 0, 1) := by decide +kernel
theorem dX0_clear_17 : decode cX0_clear 17 = .ok (.iconst 5, 1) := by decide +kernel
theorem dX0_clear_18 : decode cX0_clear 18 = .ok (.putfield 15, 3) := by decide +kernel
theorem dX0_clear_21 : decode cX0_clear 21 = .ok (.return_, 1) := by decide +kernel
theorem dX0_copyFrom_0 : decode cX0_copyFrom 0 = .ok (.aload_n 0, 1) := by decide +kernel
theorem dX0_copyFrom_1 : decode cX0_copyFrom 1 = .ok (.aload_n 1, 1) := by decide +kernel
theorem dX0_copyFrom_2 : decode cX0_copyFrom 2 = .ok (.getfield 28, 3) := by decide +kernel
theorem dX0_copyFrom_5 : decode cX0_copyFrom 5 = .ok (.putfield 28, 3) := by decide +kernel
theorem dX0_copyFrom_8 : decode cX0_copyFrom 8 = .ok (.aload_n 0, 1) := by decide +kernel
theorem dX0_copyFrom_9 : decode cX0_copyFrom 9 = .ok (.aload_n 1, 1) := by decide +kernel
theorem dX0_copyFrom_10 : decode cX0_copyFrom 10 = .ok (.getfield 31, 3) := by decide +kernel
theorem dX0_copyFrom_13 : decode cX0_copyFrom 13 = .ok (.putfield 31, 3) := by decide +kernel
theorem dX0_copyFrom_16 : decode cX0_copyFrom 16 = .ok (.aload_n 0, 1) := by decide +kernel
theorem dX0_copyFrom_17 : decode cX0_copyFrom 17 = .ok (.aload_n 1, 1) := by decide +kernel
theorem dX0_copyFrom_18 : decode cX0_copyFrom 18 = .ok (.getfield 9, 3) := by decide +kernel
theorem dX0_copyFrom_21 : decode cX0_copyFrom 21 = .ok (.putfield 9, 3) := by decide +kernel
theorem dX0_copyFrom_24 : decode cX0_copyFrom 24 = .ok (.aload_n 0, 1) := by decide +kernel
theorem dX0_copyFrom_25 : decode cX0_copyFrom 25 = .ok (.aload_n 1, 1) := by decide +kernel
theorem dX0_copyFrom_26 : decode cX0_copyFrom 26 = .ok (.getfield 15, 3) := by decide +kernel
theorem dX0_copyFrom_29 : decode cX0_copyFrom 29 = .ok (.putfield 15, 3) := by decide +kernel
theorem dX0_copyFrom_32 : decode cX0_copyFrom 32 = .ok (.aload_n 1, 1) := by decide +kernel
theorem dX0_copyFrom_33 : decode cX0_copyFrom 33 = .ok (.getfield 18, 3) := by decide +kernel
theorem dX0_copyFrom_36 : decode cX0_copyFrom 36 = .ok (.iconst 0, 1) := by decide +kernel
theorem dX0_copyFrom_37 : decode cX0_copyFrom 37 = .ok (.aload_n 0, 1) := by decide +kernel
theorem dX0_copyFrom_38 : decode cX0_copyFrom 38 = .ok (.getfield 18, 3) := by decide +kernel
theorem dX0_copyFrom_41 : decode cX0_copyFrom 41 = .ok (.iconst 0, 1) := by decide +kernel
theorem dX0_copyFrom_42 : decode cX0_copyFrom 42 = .ok (.bipush 8, 2) := by decide +kernel
theorem dX0_copyFrom_44 : decode cX0_copyFrom 44 = .ok (.invokestatic 34, 3) := by decide +kernel
theorem dX0_copyFrom_47 : decode cX0_copyFrom 47 = .ok (.aload_n 1, 1) := by decide +kernel
theorem dX0_copyFrom_48 : decode cX0_copyFrom 48 = .ok (.getfield 22, 3) := by decide +kernel
theorem dX0_copyFrom_51 : decode cX0_copyFrom 51 = .ok (.iconst 0, 1) := by decide +kernel
theorem dX0_copyFrom_52 : decode cX0_copyFrom 52 = .ok (.aload_n 0, 1) := by decide +kernel
theorem dX0_copyFrom_53 : decode cX0_copyFrom 53 = .ok (.getfield 22, 3) := by decide +kernel
theorem dX0_copyFrom_56 : decode cX0_copyFrom 56 = .ok (.iconst 0, 1) := by decide +kernel
theorem dX0_copyFrom_57 : decode cX0_copyFrom 57 = .ok (.bipush 8, 2) := by decide +kernel
theorem dX0_copyFrom_59 : decode cX0_copyFrom 59 = .ok (.invokestatic 34, 3) := by decide +kernel
theorem dX0_copyFrom_62 : decode cX0_copyFrom 62 = .ok (.aload_n 1, 1) := by decide +kernel
theorem dX0_copyFrom_63 : decode cX0_copyFrom 63 = .ok (.getfield 25, 3) := by decide +kernel
theorem dX0_copyFrom_66 : decode cX0_copyFrom 66 = .ok (.iconst 0, 1) := by decide +kernel
theorem dX0_copyFrom_67 : decode cX0_copyFrom 67 = .ok (.aload_n 0, 1) := by decide +kernel
theorem dX0_copyFrom_68 : decode cX0_copyFrom 68 = .ok (.getfield 25, 3) := by decide +kernel
theorem dX0_copyFrom_71 : decode cX0_copyFrom 71 = .ok (.iconst 0, 1) := by decide +kernel
theorem dX0_copyFrom_72 : decode cX0_copyFrom 72 = .ok (.bipush 40, 2) := by decide +kernel
theorem dX0_copyFrom_74 : decode cX0_copyFrom 74 = .ok (.invokestatic 34, 3) := by decide +kernel
theorem dX0_copyFrom_77 : decode cX0_copyFrom 77 = .ok (.return_, 1) := by decide +kernel
theorem dX0_saveTo_0 : decode cX0_saveTo 0 = .ok (.iload_n 2, 1) := by decide +kernel
theorem dX0_saveTo_1 : decode cX0_saveTo 1 = .ok (.ifCond .lt 12, 3) := by decide +kernel
theorem dX0_saveTo_4 : decode cX0_saveTo 4 = .ok (.iload_n 2, 1) := by decide +kernel
theorem dX0_saveTo_5 : decode cX0_saveTo 5 = .ok (.aload_n 1, 1) := by decide +kernel
theorem dX0_saveTo_6 : decode cX0_saveTo 6 = .ok (.arraylength, 1) := by decide +kernel
theorem dX0_saveTo_7 : decode cX0_saveTo 7 = .ok (.bipush 60, 2) := by decide +kernel
theorem dX0_saveTo_9 : decode cX0_saveTo 9 = .ok (.isub, 1) := by decide +kernel
theorem dX0_saveTo_10 : decode cX0_saveTo 10 = .ok (.if_icmp .le 4, 3) := by decide +kernel
theorem dX0_saveTo_13 : decode cX0_saveTo 13 = .ok (.return_, 1) := by decide +kernel
theorem dX0_saveTo_14 : decode cX0_saveTo 14 = .ok (.aload_n 1, 1) := by decide +kernel
theorem dX0_saveTo_15 : decode cX0_saveTo 15 = .ok (.iload_n 2, 1) := by decide +kernel
theorem dX0_saveTo_16 : decode cX0_saveTo 16 = .ok (.aload_n 0, 1) := by decide +kernel
theorem dX0_saveTo_17 : decode cX0_saveTo 17 = .ok (.getfield 28, 3) := by decide +kernel
theorem dX0_saveTo_20 : decode cX0_saveTo 20 = .ok (.iastore, 1) := by decide +kernel
theorem dX0_saveTo_21 : decode cX0_saveTo 21 = .ok (.aload_n 1, 1) := by decide +kernel
theorem dX0_saveTo_22 : decode cX0_saveTo 22 = .ok (.iload_n 2, 1) := by decide +kernel
theorem dX0_saveTo_23 : decode cX0_saveTo 23 = .ok (.iconst 1, 1) := by decide +kernel
theorem dX0_saveTo_24 : decode cX0_saveTo 24 = .ok (.iadd, 1) := by decide +kernel
theorem dX0_saveTo_25 : decode cX0_saveTo 25 = .ok (.aload_n 0, 1) := by decide +kernel
theorem dX0_saveTo_26 : decode cX0_saveTo 26 = .ok (.getfield 31, 3) := by decide +kernel
theorem dX0_saveTo_29 : decode cX0_saveTo 29 = .ok (.iastore, 1) := by decide +kernel
theorem dX0_saveTo_30 : decode cX0_saveTo 30 = .ok (.aload_n 1, 1) := by decide +kernel
theorem dX0_saveTo_31 : decode cX0_saveTo 31 = .ok (.iload_n 2, 1) := by decide +kernel
theorem dX0_saveTo_32 : decode cX0_saveTo 32 = .ok (.iconst 2, 1) := by decide +kernel
theorem dX0_saveTo_33 : decode cX0_saveTo 33 = .ok (.iadd, 1) := by decide +kernel
theorem dX0_saveTo_34 : decode cX0_saveTo 34 = .ok (.aload_n 0, 1) := by decide +kernel
theorem dX0_saveTo_35 : decode cX0_saveTo 35 = .ok (.getfield 9, 3) := by decide +kernel
theorem dX0_saveTo_38 : decode cX0_saveTo 38 = .ok (.iastore, 1) := by decide +kernel
theorem dX0_saveTo_39 : decode cX0_saveTo 39 = .ok (.aload_n 1, 1) := by decide +kernel
theorem dX0_saveTo_40 : decode cX0_saveTo 40 = .ok (.iload_n 2, 1) := by decide +kernel
theorem dX0_saveTo_41 : decode cX0_saveTo 41 = .ok (.iconst 3, 1) := by decide +kernel
theorem dX0_saveTo_42 : decode cX0_saveTo 42 = .ok (.iadd, 1) := by decide +kernel
theorem dX0_saveTo_43 : decode cX0_saveTo 43 = .ok (.aload_n 0, 1) := by decide +kernel
theorem dX0_saveTo_44 : decode cX0_saveTo 44 = .ok (.getfield 15, 3) := by decide +kernel
theorem dX0_saveTo_47 : decode cX0_saveTo 47 = .ok (.iastore, 1) := by decide +kernel
theorem dX0_saveTo_48 : decode cX0_saveTo 48 = .ok (.aload_n 0, 1) := by decide +kernel
theorem dX0_saveTo_49 : decode cX0_saveTo 49 = .ok (.getfield 18, 3) := by decide +kernel
theorem dX0_saveTo_52 : decode cX0_saveTo 52 = .ok (.iconst 0, 1) := by decide +kernel
theorem dX0_saveTo_53 : decode cX0_saveTo 53 = .ok (.aload_n 1, 1) := by decide +kernel
theorem dX0_saveTo_54 : decode cX0_saveTo 54 = .ok (.iload_n 2, 1) := by decide +kernel
theorem dX0_saveTo_55 : decode cX0_saveTo 55 = .ok (.iconst 4, 1) := by decide +kernel
theorem dX0_saveTo_56 : decode cX0_saveTo 56 = .ok (.iadd, 1) := by decide +kernel
theorem dX0_saveTo_57 : decode cX0_saveTo 57 = .ok (.bipush 8, 2) := by decide +kernel
theorem dX0_saveTo_59 : decode cX0_saveTo 59 = .ok (.invokestatic 34, 3) := by decide +kernel
theorem dX0_saveTo_62 : decode cX0_saveTo 62 = .ok (.aload_n 0, 1) := by decide +kernel
theorem dX0_saveTo_63 : decode cX0_saveTo 63 = .ok (.getfield 22, 3) := by decide +kernel
theorem dX0_saveTo_66 : decode cX0_saveTo 66 = .ok (.iconst 0, 1) := by decide +kernel
theorem dX0_saveTo_67 : decode cX0_saveTo 67 = .ok (.aload_n 1, 1) := by decide +kernel
theorem dX0_saveTo_68 : decode cX0_saveTo 68 = .ok (.iload_n 2, 1) := by decide +kernel
theorem dX0_saveTo_69 : decode cX0_saveTo 69 = .ok (.iconst 4, 1) := by decide +kernel
theorem dX0_saveTo_70 : decode cX0_saveTo 70 = .ok (.iadd, 1) := by decide +kernel
theorem dX0_saveTo_71 : decode cX0_saveTo 71 = .ok (.bipush 8, 2) := by decide +kernel
theorem dX0_saveTo_73 : decode cX0_saveTo 73 = .ok (.iadd, 1) := by decide +kernel
theorem dX0_saveTo_74 : decode cX0_saveTo 74 = .ok (.bipush 8, 2) := by decide +kernel
theorem dX0_saveTo_76 : decode cX0_saveTo 76 = .ok (.invokestatic 34, 3) := by decide +kernel
theorem dX0_saveTo_79 : decode cX0_saveTo 79 = .ok (.aload_n 0, 1) := by decide +kernel
theorem dX0_saveTo_80 : decode cX0_saveTo 80 = .ok (.getfield 25, 3) := by decide +kernel
theorem dX0_saveTo_83 : decode cX0_saveTo 83 = .ok (.iconst 0, 1) := by decide +kernel
theorem dX0_saveTo_84 : decode cX0_saveTo 84 = .ok (.aload_n 1, 1) := by decide +kernel
theorem dX0_saveTo_85 : decode cX0_saveTo 85 = .ok (.iload_n 2, 1) := by decide +kernel
theorem dX0_saveTo_86 : decode cX0_saveTo 86 = .ok (.iconst 4, 1) := by decide +kernel
theorem dX0_saveTo_87 : decode cX0_saveTo 87 = .ok (.iadd, 1) := by decide +kernel
theorem dX0_saveTo_88 : decode cX0_saveTo 88 = .ok (.bipush 16, 2) := by decide +kernel
theorem dX0_saveTo_90 : decode cX0_saveTo 90 = .ok (.iadd, 1) := by decide +kernel
theorem dX0_saveTo_91 : decode cX0_saveTo 91 = .ok (.bipush 40, 2) := by decide +kernel
theorem dX0_saveTo_93 : decode cX0_saveTo 93 = .ok (.invokestatic 34, 3) := by decide +kernel
theorem dX0_saveTo_96 : decode cX0_saveTo 96 = .ok (.return_, 1) := by decide +kernel
theorem dX0_loadFrom_0 : decode cX0_loadFrom 0 = .ok (.iload_n 2, 1) := by decide +kernel
theorem dX0_loadFrom_1 : decode cX0_loadFrom 1 = .ok (.ifCond .lt 12, 3) := by decide +kernel
theorem dX0_loadFrom_4 : decode cX0_loadFrom 4 = .ok (.iload_n 2, 1) := by decide +kernel
theorem dX0_loadFrom_5 : decode cX0_loadFrom 5 = .ok (.aload_n 1, 1) := by decide +kernel
theorem dX0_loadFrom_6 : decode cX0_loadFrom 6 = .ok (.arraylength, 1) := by decide +kernel
theorem dX0_loadFrom_7 : decode cX0_loadFrom 7 = .ok (.bipush 60, 2) := by decide +kernel
theorem dX0_loadFrom_9 : decode cX0_loadFrom 9 = .ok (.isub, 1) := by decide +kernel
theorem dX0_loadFrom_10 : decode cX0_loadFrom 10 = .ok (.if_icmp .le 4, 3) := by decide +kernel
theorem dX0_loadFrom_13 : decode cX0_loadFrom 13 = .ok (.return_, 1) := by decide +kernel
theorem dX0_loadFrom_14 : decode cX0_loadFrom 14 = .ok (.aload_n 0, 1) := by decide +kernel
theorem dX0_loadFrom_15 : decode cX0_loadFrom 15 = .ok (.aload_n 1, 1) := by decide +kernel
theorem dX0_loadFrom_16 : decode cX0_loadFrom 16 = .ok (.iload_n 2, 1) := by decide +kernel
theorem dX0_loadFrom_17 : decode cX0_loadFrom 17 = .ok (.iaload, 1) := by decide +kernel
theorem dX0_loadFrom_18 : decode cX0_loadFrom 18 = .ok (.putfield 28, 3) := by decide +kernel
theorem dX0_loadFrom_21 : decode cX0_loadFrom 21 = .ok (.aload_n 0, 1) := by decide +kernel
theorem dX0_loadFrom_22 : decode cX0_loadFrom 22 = .ok (.aload_n 1, 1) := by decide +kernel
theorem dX0_loadFrom_23 : decode cX0_loadFrom 23 = .ok (.iload_n 2, 1) := by decide +kernel
theorem dX0_loadFrom_24 : decode cX0_loadFrom 24 = .ok (.iconst 1, 1) := by decide +kernel
theorem dX0_loadFrom_25 : decode cX0_loadFrom 25 = .ok (.iadd, 1) := by decide +kernel
theorem dX0_loadFrom_26 : decode cX0_loadFrom 26 = .ok (.iaload, 1) := by decide +kernel
theorem dX0_loadFrom_27 : decode cX0_loadFrom 27 = .ok (.putfield 31, 3) := by decide +kernel
theorem dX0_loadFrom_30 : decode cX0_loadFrom 30 = .ok (.aload_n 0, 1) := by decide +kernel
theorem dX0_loadFrom_31 : decode cX0_loadFrom 31 = .ok (.aload_n 1, 1) := by decide +kernel
theorem dX0_loadFrom_32 : decode cX0_loadFrom 32 = .ok (.iload_n 2, 1) := by decide +kernel
theorem dX0_loadFrom_33 : decode cX0_loadFrom 33 = .ok (.iconst 2, 1) := by decide +kernel
theorem dX0_loadFrom_34 : decode cX0_loadFrom 34 = .ok (.iadd, 1) := by decide +kernel
theorem dX0_loadFrom_35 : decode cX0_loadFrom 35 = .ok (.iaload, 1) := by decide +kernel
theorem dX0_loadFrom_36 : decode cX0_loadFrom 36 = .ok (.putfield 9, 3) := by decide +kernel
theorem dX0_loadFrom_39 : decode cX0_loadFrom 39 = .ok (.aload_n 0, 1) := by decide +kernel
theorem dX0_loadFrom_40 : decode cX0_loadFrom 40 = .ok (.aload_n 1, 1) := by decide +kernel
theorem dX0_loadFrom_41 : decode cX0_loadFrom 41 = .ok (.iload_n 2, 1) := by decide +kernel
theorem dX0_loadFrom_42 : decode cX0_loadFrom 42 = .ok (.iconst 3, 1) := by decide +kernel
theorem dX0_loadFrom_43 : decode cX0_loadFrom 43 = .ok (.iadd, 1) := by decide +kernel
theorem dX0_loadFrom_44 : decode cX0_loadFrom 44 = .ok (.iaload, 1) := by decide +kernel
theorem dX0_loadFrom_45 : decode cX0_loadFrom 45 = .ok (.putfield 15, 3) := by decide +kernel
theorem dX0_loadFrom_48 : decode cX0_loadFrom 48 = .ok (.aload_n 1, 1) := by decide +kernel
theorem dX0_loadFrom_49 : decode cX0_loadFrom 49 = .ok (.iload_n 2, 1) := by decide +kernel
theorem dX0_loadFrom_50 : decode cX0_loadFrom 50 = .ok (.iconst 4, 1) := by decide +kernel
theorem dX0_loadFrom_51 : decode cX0_loadFrom 51 = .ok (.iadd, 1) := by decide +kernel
theorem dX0_loadFrom_52 : decode cX0_loadFrom 52 = .ok (.aload_n 0, 1) := by decide +kernel
theorem dX0_loadFrom_53 : decode cX0_loadFrom 53 = .ok (.getfield 18, 3) := by decide +kernel
theorem dX0_loadFrom_56 : decode cX0_loadFrom 56 = .ok (.iconst 0, 1) := by decide +kernel
theorem dX0_loadFrom_57 : decode cX0_loadFrom 57 = .ok (.bipush 8, 2) := by decide +kernel
theorem dX0_loadFrom_59 : decode cX0_loadFrom 59 = .ok (.invokestatic 34, 3) := by decide +kernel
theorem dX0_loadFrom_62 : decode cX0_loadFrom 62 = .ok (.aload_n 1, 1) := by decide +kernel
theorem dX0_loadFrom_63 : decode cX0_loadFrom 63 = .ok (.iload_n 2, 1) := by decide +kernel
theorem dX0_loadFrom_64 : decode cX0_loadFrom 64 = .ok (.iconst 4, 1) := by decide +kernel
theorem dX0_loadFrom_65 : decode cX0_loadFrom 65 = .ok (.iadd, 1) := by decide +kernel
theorem dX0_loadFrom_66 : decode cX0_loadFrom 66 = .ok (.bipush 8, 2) := by decide +kernel
theorem dX0_loadFrom_68 : decode cX0_loadFrom 68 = .ok (.iadd, 1) := by decide +kernel
theorem dX0_loadFrom_69 : decode cX0_loadFrom 69 = .ok (.aload_n 0, 1) := by decide +kernel
theorem dX0_loadFrom_70 : decode cX0_loadFrom 70 = .ok (.getfield 22, 3) := by decide +kernel
theorem dX0_loadFrom_73 : decode cX0_loadFrom 73 = .ok (.iconst 0, 1) := by decide +kernel
theorem dX0_loadFrom_74 : decode cX0_loadFrom 74 = .ok (.bipush 8, 2) := by decide +kernel
theorem dX0_loadFrom_76 : decode cX0_loadFrom 76 = .ok (.invokestatic 34, 3) := by decide +kernel
theorem dX0_loadFrom_79 : decode cX0_loadFrom 79 = .ok (.aload_n 1, 1) := by decide +kernel
theorem dX0_loadFrom_80 : decode cX0_loadFrom 80 = .ok (.iload_n 2, 1) := by decide +kernel
theorem dX0_loadFrom_81 : decode cX0_loadFrom 81 = .ok (.iconst 4, 1) := by decide +kernel
theorem dX0_loadFrom_82 : decode cX0_loadFrom 82 = .ok (.iadd, 1) := by decide +kernel
theorem dX0_loadFrom_83 : decode cX0_loadFrom 83 = .ok (.bipush 16, 2) := by decide +kernel
theorem dX0_loadFrom_85 : decode cX0_loadFrom 85 = .ok (.iadd, 1) := by decide +kernel
theorem dX0_loadFrom_86 : decode cX0_loadFrom 86 = .ok (.aload_n 0, 1) := by decide +kernel
theorem dX0_loadFrom_87 : decode cX0_loadFrom 87 = .ok (.getfield 25, 3) := by decide +kernel
theorem dX0_loadFrom_90 : decode cX0_loadFrom 90 = .ok (.iconst 0, 1) := by decide +kernel
theorem dX0_loadFrom_91 : decode cX0_loadFrom 91 = .ok (.bipush 40, 2) := by decide +kernel
theorem dX0_loadFrom_93 : decode cX0_loadFrom 93 = .ok (.invokestatic 34, 3) := by decide +kernel
theorem dX0_loadFrom_96 : decode cX0_loadFrom 96 = .ok (.return_, 1) := by decide +kernel
theorem dX0_hasFleet_0 : decode cX0_hasFleet 0 = .ok (.iload_n 1, 1) := by decide +kernel
theorem dX0_hasFleet_1 : decode cX0_hasFleet 1 = .ok (.ifCond .lt 21, 3) := by decide +kernel
theorem dX0_hasFleet_4 : decode cX0_hasFleet 4 = .ok (.iload_n 1, 1) := by decide +kernel
theorem dX0_hasFleet_5 : decode cX0_hasFleet 5 = .ok (.aload_n 0, 1) := by decide +kernel
theorem dX0_hasFleet_6 : decode cX0_hasFleet 6 = .ok (.getfield 28, 3) := by decide +kernel
theorem dX0_hasFleet_9 : decode cX0_hasFleet 9 = .ok (.if_icmp .ge 13, 3) := by decide +kernel
theorem dX0_hasFleet_12 : decode cX0_hasFleet 12 = .ok (.iload_n 1, 1) := by decide +kernel
theorem dX0_hasFleet_13 : decode cX0_hasFleet 13 = .ok (.bipush 8, 2) := by decide +kernel
theorem dX0_hasFleet_15 : decode cX0_hasFleet 15 = .ok (.if_icmp .ge 7, 3) := by decide +kernel
theorem dX0_hasFleet_18 : decode cX0_hasFleet 18 = .ok (.iconst 1, 1) := by decide +kernel
theorem dX0_hasFleet_19 : decode cX0_hasFleet 19 = .ok (.goto 4, 3) := by decide +kernel
theorem dX0_hasFleet_22 : decode cX0_hasFleet 22 = .ok (.iconst 0, 1) := by decide +kernel
theorem dX0_hasFleet_23 : decode cX0_hasFleet 23 = .ok (.ireturn, 1) := by decide +kernel
theorem dX0_classOf_0 : decode cX0_classOf 0 = .ok (.aload_n 0, 1) := by decide +kernel
theorem dX0_classOf_1 : decode cX0_classOf 1 = .ok (.iload_n 1, 1) := by decide +kernel
theorem dX0_classOf_2 : decode cX0_classOf 2 = .ok (.invokevirtual 40, 3) := by decide +kernel
theorem dX0_classOf_5 : decode cX0_classOf 5 = .ok (.ifCond .eq 12, 3) := by decide +kernel
theorem dX0_classOf_8 : decode cX0_classOf 8 = .ok (.aload_n 0, 1) := by decide +kernel
theorem dX0_classOf_9 : decode cX0_classOf 9 = .ok (.getfield 18, 3) := by decide +kernel
theorem dX0_classOf_12 : decode cX0_classOf 12 = .ok (.iload_n 1, 1) := by decide +kernel
theorem dX0_classOf_13 : decode cX0_classOf 13 = .ok (.iaload, 1) := by decide +kernel
theorem dX0_classOf_14 : decode cX0_classOf 14 = .ok (.goto 4, 3) := by decide +kernel
theorem dX0_classOf_17 : decode cX0_classOf 17 = .ok (.iconst (-1), 1) := by decide +kernel
theorem dX0_classOf_18 : decode cX0_classOf 18 = .ok (.ireturn, 1) := by decide +kernel
theorem dX0_yearsOf_0 : decode cX0_yearsOf 0 = .ok (.aload_n 0, 1) := by decide +kernel
theorem dX0_yearsOf_1 : decode cX0_yearsOf 1 = .ok (.iload_n 1, 1) := by decide +kernel
theorem dX0_yearsOf_2 : decode cX0_yearsOf 2 = .ok (.invokevirtual 40, 3) := by decide +kernel
theorem dX0_yearsOf_5 : decode cX0_yearsOf 5 = .ok (.ifCond .eq 12, 3) := by decide +kernel
theorem dX0_yearsOf_8 : decode cX0_yearsOf 8 = .ok (.aload_n 0, 1) := by decide +kernel
theorem dX0_yearsOf_9 : decode cX0_yearsOf 9 = .ok (.getfield 22, 3) := by decide +kernel
theorem dX0_yearsOf_12 : decode cX0_yearsOf 12 = .ok (.iload_n 1, 1) := by decide +kernel
theorem dX0_yearsOf_13 : decode cX0_yearsOf 13 = .ok (.iaload, 1) := by decide +kernel
theorem dX0_yearsOf_14 : decode cX0_yearsOf 14 = .ok (.goto 4, 3) := by decide +kernel
theorem dX0_yearsOf_17 : decode cX0_yearsOf 17 = .ok (.iconst 0, 1) := by decide +kernel
theorem dX0_yearsOf_18 : decode cX0_yearsOf 18 = .ok (.ireturn, 1) := by decide +kernel
theorem dX0_isInsured_0 : decode cX0_isInsured 0 = .ok (.aload_n 0, 1) := by decide +kernel
theorem dX0_isInsured_1 : decode cX0_isInsured 1 = .ok (.iload_n 1, 1) := by decide +kernel
theorem dX0_isInsured_2 : decode cX0_isInsured 2 = .ok (.invokevirtual 40, 3) := by decide +kernel
theorem dX0_isInsured_5 : decode cX0_isInsured 5 = .ok (.ifCond .eq 28, 3) := by decide +kernel
theorem dX0_isInsured_8 : decode cX0_isInsured 8 = .ok (.iload_n 2, 1) := by decide +kernel
theorem dX0_isInsured_9 : decode cX0_isInsured 9 = .ok (.invokestatic 44, 3) := by decide +kernel
theorem dX0_isInsured_12 : decode cX0_isInsured 12 = .ok (.ifCond .eq 21, 3) := by decide +kernel
theorem dX0_isInsured_15 : decode cX0_isInsured 15 = .ok (.aload_n 0, 1) := by decide +kernel
theorem dX0_isInsured_16 : decode cX0_isInsured 16 = .ok (.getfield 22, 3) := by decide +kernel
theorem dX0_isInsured_19 : decode cX0_isInsured 19 = .ok (.iload_n 1, 1) := by decide +kernel
theorem dX0_isInsured_20 : decode cX0_isInsured 20 = .ok (.iaload, 1) := by decide +kernel
theorem dX0_isInsured_21 : decode cX0_isInsured 21 = .ok (.iload_n 2, 1) := by decide +kernel
theorem dX0_isInsured_22 : decode cX0_isInsured 22 = .ok (.ishr, 1) := by decide +kernel
theorem dX0_isInsured_23 : decode cX0_isInsured 23 = .ok (.iconst 1, 1) := by decide +kernel
theorem dX0_isInsured_24 : decode cX0_isInsured 24 = .ok (.iand, 1) := by decide +kernel
theorem dX0_isInsured_25 : decode cX0_isInsured 25 = .ok (.iconst 1, 1) := by decide +kernel
theorem dX0_isInsured_26 : decode cX0_isInsured 26 = .ok (.if_icmp .ne 7, 3) := by decide +kernel
theorem dX0_isInsured_29 : decode cX0_isInsured 29 = .ok (.iconst 1, 1) := by decide +kernel
theorem dX0_isInsured_30 : decode cX0_isInsured 30 = .ok (.goto 4, 3) := by decide +kernel
theorem dX0_isInsured_33 : decode cX0_isInsured 33 = .ok (.iconst 0, 1) := by decide +kernel
theorem dX0_isInsured_34 : decode cX0_isInsured 34 = .ok (.ireturn, 1) := by decide +kernel
theorem dX0_putClass_0 : decode cX0_putClass 0 = .ok (.aload_n 0, 1) := by decide +kernel
theorem dX0_putClass_1 : decode cX0_putClass 1 = .ok (.iload_n 1, 1) := by decide +kernel
theorem dX0_putClass_2 : decode cX0_putClass 2 = .ok (.invokevirtual 40, 3) := by decide +kernel
theorem dX0_putClass_5 : decode cX0_putClass 5 = .ok (.ifCond .eq 10, 3) := by decide +kernel
theorem dX0_putClass_8 : decode cX0_putClass 8 = .ok (.aload_n 0, 1) := by decide +kernel
theorem dX0_putClass_9 : decode cX0_putClass 9 = .ok (.getfield 18, 3) := by decide +kernel
theorem dX0_putClass_12 : decode cX0_putClass 12 = .ok (.iload_n 1, 1) := by decide +kernel
theorem dX0_putClass_13 : decode cX0_putClass 13 = .ok (.iload_n 2, 1) := by decide +kernel
theorem dX0_putClass_14 : decode cX0_putClass 14 = .ok (.iastore, 1) := by decide +kernel
theorem dX0_putClass_15 : decode cX0_putClass 15 = .ok (.return_, 1) := by decide +kernel
theorem dX0_putYears_0 : decode cX0_putYears 0 = .ok (.aload_n 0, 1) := by decide +kernel
theorem dX0_putYears_1 : decode cX0_putYears 1 = .ok (.iload_n 1, 1) := by decide +kernel
theorem dX0_putYears_2 : decode cX0_putYears 2 = .ok (.invokevirtual 40, 3) := by decide +kernel
theorem dX0_putYears_5 : decode cX0_putYears 5 = .ok (.ifCond .eq 10, 3) := by decide +kernel
theorem dX0_putYears_8 : decode cX0_putYears 8 = .ok (.aload_n 0, 1) := by decide +kernel
theorem dX0_putYears_9 : decode cX0_putYears 9 = .ok (.getfield 22, 3) := by decide +kernel
theorem dX0_putYears_12 : decode cX0_putYears 12 = .ok (.iload_n 1, 1) := by decide +kernel
theorem dX0_putYears_13 : decode cX0_putYears 13 = .ok (.iload_n 2, 1) := by decide +kernel
theorem dX0_putYears_14 : decode cX0_putYears 14 = .ok (.iastore, 1) := by decide +kernel
theorem dX0_putYears_15 : decode cX0_putYears 15 = .ok (.return_, 1) := by decide +kernel
theorem dX0_addFleet_0 : decode cX0_addFleet 0 = .ok (.aload_n 0, 1) := by decide +kernel
theorem dX0_addFleet_1 : decode cX0_addFleet 1 = .ok (.getfield 28, 3) := by decide +kernel
theorem dX0_addFleet_4 : decode cX0_addFleet 4 = .ok (.bipush 8, 2) := by decide +kernel
theorem dX0_addFleet_6 : decode cX0_addFleet 6 = .ok (.if_icmp .lt 5, 3) := by decide +kernel
theorem dX0_addFleet_9 : decode cX0_addFleet 9 = .ok (.iconst (-1), 1) := by decide +kernel
theorem dX0_addFleet_10 : decode cX0_addFleet 10 = .ok (.ireturn, 1) := by decide +kernel
theorem dX0_addFleet_11 : decode cX0_addFleet 11 = .ok (.aload_n 0, 1) := by decide +kernel
theorem dX0_addFleet_12 : decode cX0_addFleet 12 = .ok (.dup, 1) := by decide +kernel
theorem dX0_addFleet_13 : decode cX0_addFleet 13 = .ok (.getfield 28, 3) := by decide +kernel
theorem dX0_addFleet_16 : decode cX0_addFleet 16 = .ok (.iconst 1, 1) := by decide +kernel
theorem dX0_addFleet_17 : decode cX0_addFleet 17 = .ok (.iadd, 1) := by decide +kernel
theorem dX0_addFleet_18 : decode cX0_addFleet 18 = .ok (.putfield 28, 3) := by decide +kernel
theorem dX0_addFleet_21 : decode cX0_addFleet 21 = .ok (.aload_n 0, 1) := by decide +kernel
theorem dX0_addFleet_22 : decode cX0_addFleet 22 = .ok (.aload_n 0, 1) := by decide +kernel
theorem dX0_addFleet_23 : decode cX0_addFleet 23 = .ok (.getfield 28, 3) := by decide +kernel
theorem dX0_addFleet_26 : decode cX0_addFleet 26 = .ok (.iconst 1, 1) := by decide +kernel
theorem dX0_addFleet_27 : decode cX0_addFleet 27 = .ok (.isub, 1) := by decide +kernel
theorem dX0_addFleet_28 : decode cX0_addFleet 28 = .ok (.iload_n 1, 1) := by decide +kernel
theorem dX0_addFleet_29 : decode cX0_addFleet 29 = .ok (.invokevirtual 47, 3) := by decide +kernel
theorem dX0_addFleet_32 : decode cX0_addFleet 32 = .ok (.aload_n 0, 1) := by decide +kernel
theorem dX0_addFleet_33 : decode cX0_addFleet 33 = .ok (.aload_n 0, 1) := by decide +kernel
theorem dX0_addFleet_34 : decode cX0_addFleet 34 = .ok (.getfield 28, 3) := by decide +kernel
theorem dX0_addFleet_37 : decode cX0_addFleet 37 = .ok (.iconst 1, 1) := by decide +kernel
theorem dX0_addFleet_38 : decode cX0_addFleet 38 = .ok (.isub, 1) := by decide +kernel
theorem dX0_addFleet_39 : decode cX0_addFleet 39 = .ok (.iload_n 2, 1) := by decide +kernel
theorem dX0_addFleet_40 : decode cX0_addFleet 40 = .ok (.invokevirtual 51, 3) := by decide +kernel
theorem dX0_addFleet_43 : decode cX0_addFleet 43 = .ok (.aload_n 0, 1) := by decide +kernel
theorem dX0_addFleet_44 : decode cX0_addFleet 44 = .ok (.getfield 28, 3) := by decide +kernel
theorem dX0_addFleet_47 : decode cX0_addFleet 47 = .ok (.iconst 1, 1) := by decide +kernel
theorem dX0_addFleet_48 : decode cX0_addFleet 48 = .ok (.isub, 1) := by decide +kernel
theorem dX0_addFleet_49 : decode cX0_addFleet 49 = .ok (.ireturn, 1) := by decide +kernel
theorem dX0_dropFleet_0 : decode cX0_dropFleet 0 = .ok (.aload_n 0, 1) := by decide +kernel
theorem dX0_dropFleet_1 : decode cX0_dropFleet 1 = .ok (.iload_n 1, 1) := by decide +kernel
theorem dX0_dropFleet_2 : decode cX0_dropFleet 2 = .ok (.invokevirtual 40, 3) := by decide +kernel
theorem dX0_dropFleet_5 : decode cX0_dropFleet 5 = .ok (.ifCond .eq 16, 3) := by decide +kernel
theorem dX0_dropFleet_8 : decode cX0_dropFleet 8 = .ok (.aload_n 0, 1) := by decide +kernel
theorem dX0_dropFleet_9 : decode cX0_dropFleet 9 = .ok (.iload_n 1, 1) := by decide +kernel
theorem dX0_dropFleet_10 : decode cX0_dropFleet 10 = .ok (.bipush 31, 2) := by decide +kernel
theorem dX0_dropFleet_12 : decode cX0_dropFleet 12 = .ok (.invokevirtual 54, 3) := by decide +kernel
theorem dX0_dropFleet_15 : decode cX0_dropFleet 15 = .ok (.pop, 1) := by decide +kernel
theorem dX0_dropFleet_16 : decode cX0_dropFleet 16 = .ok (.aload_n 0, 1) := by decide +kernel
theorem dX0_dropFleet_17 : decode cX0_dropFleet 17 = .ok (.iload_n 1, 1) := by decide +kernel
theorem dX0_dropFleet_18 : decode cX0_dropFleet 18 = .ok (.invokevirtual 58, 3) := by decide +kernel
theorem dX0_dropFleet_21 : decode cX0_dropFleet 21 = .ok (.return_, 1) := by decide +kernel
theorem dX0_closeGapAt_0 : decode cX0_closeGapAt 0 = .ok (.iload_n 1, 1) := by decide +kernel
theorem dX0_closeGapAt_1 : decode cX0_closeGapAt 1 = .ok (.iconst 1, 1) := by decide +kernel
theorem dX0_closeGapAt_2 : decode cX0_closeGapAt 2 = .ok (.iadd, 1) := by decide +kernel
theorem dX0_closeGapAt_3 : decode cX0_closeGapAt 3 = .ok (.istore_n 2, 1) := by decide +kernel
theorem dX0_closeGapAt_4 : decode cX0_closeGapAt 4 = .ok (.iload_n 2, 1) := by decide +kernel
theorem dX0_closeGapAt_5 : decode cX0_closeGapAt 5 = .ok (.aload_n 0, 1) := by decide +kernel
theorem dX0_closeGapAt_6 : decode cX0_closeGapAt 6 = .ok (.getfield 28, 3) := by decide +kernel
theorem dX0_closeGapAt_9 : decode cX0_closeGapAt 9 = .ok (.if_icmp .ge 33, 3) := by decide +kernel
theorem dX0_closeGapAt_12 : decode cX0_closeGapAt 12 = .ok (.aload_n 0, 1) := by decide +kernel
theorem dX0_closeGapAt_13 : decode cX0_closeGapAt 13 = .ok (.iload_n 2, 1) := by decide +kernel
theorem dX0_closeGapAt_14 : decode cX0_closeGapAt 14 = .ok (.iconst 1, 1) := by decide +kernel
theorem dX0_closeGapAt_15 : decode cX0_closeGapAt 15 = .ok (.isub, 1) := by decide +kernel
theorem dX0_closeGapAt_16 : decode cX0_closeGapAt 16 = .ok (.aload_n 0, 1) := by decide +kernel
theorem dX0_closeGapAt_17 : decode cX0_closeGapAt 17 = .ok (.iload_n 2, 1) := by decide +kernel
theorem dX0_closeGapAt_18 : decode cX0_closeGapAt 18 = .ok (.invokevirtual 62, 3) := by decide +kernel
theorem dX0_closeGapAt_21 : decode cX0_closeGapAt 21 = .ok (.invokevirtual 47, 3) := by decide +kernel
theorem dX0_closeGapAt_24 : decode cX0_closeGapAt 24 = .ok (.aload_n 0, 1) := by decide +kernel
theorem dX0_closeGapAt_25 : decode cX0_closeGapAt 25 = .ok (.iload_n 2, 1) := by decide +kernel
theorem dX0_closeGapAt_26 : decode cX0_closeGapAt 26 = .ok (.iconst 1, 1) := by decide +kernel
theorem dX0_closeGapAt_27 : decode cX0_closeGapAt 27 = .ok (.isub, 1) := by decide +kernel
theorem dX0_closeGapAt_28 : decode cX0_closeGapAt 28 = .ok (.aload_n 0, 1) := by decide +kernel
theorem dX0_closeGapAt_29 : decode cX0_closeGapAt 29 = .ok (.iload_n 2, 1) := by decide +kernel
theorem dX0_closeGapAt_30 : decode cX0_closeGapAt 30 = .ok (.invokevirtual 66, 3) := by decide +kernel
theorem dX0_closeGapAt_33 : decode cX0_closeGapAt 33 = .ok (.invokevirtual 51, 3) := by decide +kernel
theorem dX0_closeGapAt_36 : decode cX0_closeGapAt 36 = .ok (.iinc 2 1, 3) := by decide +kernel
theorem dX0_closeGapAt_39 : decode cX0_closeGapAt 39 = .ok (.goto (-35), 3) := by decide +kernel
theorem dX0_closeGapAt_42 : decode cX0_closeGapAt 42 = .ok (.aload_n 0, 1) := by decide +kernel
theorem dX0_closeGapAt_43 : decode cX0_closeGapAt 43 = .ok (.dup, 1) := by decide +kernel
theorem dX0_closeGapAt_44 : decode cX0_closeGapAt 44 = .ok (.getfield 28, 3) := by decide +kernel
theorem dX0_closeGapAt_47 : decode cX0_closeGapAt 47 = .ok (.iconst 1, 1) := by decide +kernel
theorem dX0_closeGapAt_48 : decode cX0_closeGapAt 48 = .ok (.isub, 1) := by decide +kernel
theorem dX0_closeGapAt_49 : decode cX0_closeGapAt 49 = .ok (.putfield 28, 3) := by decide +kernel
theorem dX0_closeGapAt_52 : decode cX0_closeGapAt 52 = .ok (.iconst 0, 1) := by decide +kernel
theorem dX0_closeGapAt_53 : decode cX0_closeGapAt 53 = .ok (.istore_n 2, 1) := by decide +kernel
theorem dX0_closeGapAt_54 : decode cX0_closeGapAt 54 = .ok (.iload_n 2, 1) := by decide +kernel
theorem dX0_closeGapAt_55 : decode cX0_closeGapAt 55 = .ok (.aload_n 0, 1) := by decide +kernel
theorem dX0_closeGapAt_56 : decode cX0_closeGapAt 56 = .ok (.getfield 31, 3) := by decide +kernel
theorem dX0_closeGapAt_59 : decode cX0_closeGapAt 59 = .ok (.if_icmp .ge 30, 3) := by decide +kernel
theorem dX0_closeGapAt_62 : decode cX0_closeGapAt 62 = .ok (.aload_n 0, 1) := by decide +kernel
theorem dX0_closeGapAt_63 : decode cX0_closeGapAt 63 = .ok (.iload_n 2, 1) := by decide +kernel
theorem dX0_closeGapAt_64 : decode cX0_closeGapAt 64 = .ok (.invokevirtual 69, 3) := by decide +kernel
theorem dX0_closeGapAt_67 : decode cX0_closeGapAt 67 = .ok (.iload_n 1, 1) := by decide +kernel
theorem dX0_closeGapAt_68 : decode cX0_closeGapAt 68 = .ok (.if_icmp .le 15, 3) := by decide +kernel
theorem dX0_closeGapAt_71 : decode cX0_closeGapAt 71 = .ok (.aload_n 0, 1) := by decide +kernel
theorem dX0_closeGapAt_72 : decode cX0_closeGapAt 72 = .ok (.iload_n 2, 1) := by decide +kernel
theorem dX0_closeGapAt_73 : decode cX0_closeGapAt 73 = .ok (.aload_n 0, 1) := by decide +kernel
theorem dX0_closeGapAt_74 : decode cX0_closeGapAt 74 = .ok (.iload_n 2, 1) := by decide +kernel
theorem dX0_closeGapAt_75 : decode cX0_closeGapAt 75 = .ok (.invokevirtual 69, 3) := by decide +kernel
theorem dX0_closeGapAt_78 : decode cX0_closeGapAt 78 = .ok (.iconst 1, 1) := by decide +kernel
theorem dX0_closeGapAt_79 : decode cX0_closeGapAt 79 = .ok (.isub, 1) := by decide +kernel
theorem dX0_closeGapAt_80 : decode cX0_closeGapAt 80 = .ok (.invokevirtual 72, 3) := by decide +kernel
theorem dX0_closeGapAt_83 : decode cX0_closeGapAt 83 = .ok (.iinc 2 1, 3) := by decide +kernel
theorem dX0_closeGapAt_86 : decode cX0_closeGapAt 86 = .ok (.goto (-32), 3) := by decide +kernel
theorem dX0_closeGapAt_89 : decode cX0_closeGapAt 89 = .ok (.return_, 1) := by decide +kernel
theorem dX0_endYears_0 : decode cX0_endYears 0 = .ok (.aload_n 0, 1) := by decide +kernel
theorem dX0_endYears_1 : decode cX0_endYears 1 = .ok (.iload_n 1, 1) := by decide +kernel
theorem dX0_endYears_2 : decode cX0_endYears 2 = .ok (.aload_n 0, 1) := by decide +kernel
theorem dX0_endYears_3 : decode cX0_endYears 3 = .ok (.iload_n 1, 1) := by decide +kernel
theorem dX0_endYears_4 : decode cX0_endYears 4 = .ok (.invokevirtual 66, 3) := by decide +kernel
theorem dX0_endYears_7 : decode cX0_endYears 7 = .ok (.iload_n 2, 1) := by decide +kernel
theorem dX0_endYears_8 : decode cX0_endYears 8 = .ok (.iconst (-1), 1) := by decide +kernel
theorem dX0_endYears_9 : decode cX0_endYears 9 = .ok (.ixor, 1) := by decide +kernel
theorem dX0_endYears_10 : decode cX0_endYears 10 = .ok (.iand, 1) := by decide +kernel
theorem dX0_endYears_11 : decode cX0_endYears 11 = .ok (.invokevirtual 51, 3) := by decide +kernel
theorem dX0_endYears_14 : decode cX0_endYears 14 = .ok (.aload_n 0, 1) := by decide +kernel
theorem dX0_endYears_15 : decode cX0_endYears 15 = .ok (.iload_n 1, 1) := by decide +kernel
theorem dX0_endYears_16 : decode cX0_endYears 16 = .ok (.iload_n 2, 1) := by decide +kernel
theorem dX0_endYears_17 : decode cX0_endYears 17 = .ok (.invokevirtual 54, 3) := by decide +kernel
theorem dX0_endYears_20 : decode cX0_endYears 20 = .ok (.ireturn, 1) := by decide +kernel
theorem dX0_endYearsOfAll_0 : decode cX0_endYearsOfAll 0 = .ok (.iconst 0, 1) := by decide +kernel
theorem dX0_endYearsOfAll_1 : decode cX0_endYearsOfAll 1 = .ok (.istore_n 2, 1) := by decide +kernel
theorem dX0_endYearsOfAll_2 : decode cX0_endYearsOfAll 2 = .ok (.iload_n 2, 1) := by decide +kernel
theorem dX0_endYearsOfAll_3 : decode cX0_endYearsOfAll 3 = .ok (.aload_n 0, 1) := by decide +kernel
theorem dX0_endYearsOfAll_4 : decode cX0_endYearsOfAll 4 = .ok (.getfield 28, 3) := by decide +kernel
theorem dX0_endYearsOfAll_7 : decode cX0_endYearsOfAll 7 = .ok (.if_icmp .ge 16, 3) := by decide +kernel
theorem dX0_endYearsOfAll_10 : decode cX0_endYearsOfAll 10 = .ok (.aload_n 0, 1) := by decide +kernel
theorem dX0_endYearsOfAll_11 : decode cX0_endYearsOfAll 11 = .ok (.iload_n 2, 1) := by decide +kernel
theorem dX0_endYearsOfAll_12 : decode cX0_endYearsOfAll 12 = .ok (.iload_n 1, 1) := by decide +kernel
theorem dX0_endYearsOfAll_13 : decode cX0_endYearsOfAll 13 = .ok (.invokevirtual 75, 3) := by decide +kernel
theorem dX0_endYearsOfAll_16 : decode cX0_endYearsOfAll 16 = .ok (.pop, 1) := by decide +kernel
theorem dX0_endYearsOfAll_17 : decode cX0_endYearsOfAll 17 = .ok (.iinc 2 1, 3) := by decide +kernel
theorem dX0_endYearsOfAll_20 : decode cX0_endYearsOfAll 20 = .ok (.goto (-18), 3) := by decide +kernel
theorem dX0_endYearsOfAll_23 : decode cX0_endYearsOfAll 23 = .ok (.return_, 1) := by decide +kernel
theorem dX0_moveAll_0 : decode cX0_moveAll 0 = .ok (.iconst 0, 1) := by decide +kernel
theorem dX0_moveAll_1 : decode cX0_moveAll 1 = .ok (.istore_n 3, 1) := by decide +kernel
theorem dX0_moveAll_2 : decode cX0_moveAll 2 = .ok (.iconst 0, 1) := by decide +kernel
theorem dX0_moveAll_3 : decode cX0_moveAll 3 = .ok (.istore 4, 2) := by decide +kernel
theorem dX0_moveAll_5 : decode cX0_moveAll 5 = .ok (.iload 4, 2) := by decide +kernel
theorem dX0_moveAll_7 : decode cX0_moveAll 7 = .ok (.aload_n 0, 1) := by decide +kernel
theorem dX0_moveAll_8 : decode cX0_moveAll 8 = .ok (.getfield 28, 3) := by decide +kernel
theorem dX0_moveAll_11 : decode cX0_moveAll 11 = .ok (.if_icmp .ge 29, 3) := by decide +kernel
theorem dX0_moveAll_14 : decode cX0_moveAll 14 = .ok (.aload_n 0, 1) := by decide +kernel
theorem dX0_moveAll_15 : decode cX0_moveAll 15 = .ok (.iload 4, 2) := by decide +kernel
theorem dX0_moveAll_17 : decode cX0_moveAll 17 = .ok (.invokevirtual 62, 3) := by decide +kernel
theorem dX0_moveAll_20 : decode cX0_moveAll 20 = .ok (.iload_n 1, 1) := by decide +kernel
theorem dX0_moveAll_21 : decode cX0_moveAll 21 = .ok (.if_icmp .ne 13, 3) := by decide +kernel
theorem dX0_moveAll_24 : decode cX0_moveAll 24 = .ok (.aload_n 0, 1) := by decide +kernel
theorem dX0_moveAll_25 : decode cX0_moveAll 25 = .ok (.iload 4, 2) := by decide +kernel
theorem dX0_moveAll_27 : decode cX0_moveAll 27 = .ok (.iload_n 2, 1) := by decide +kernel
theorem dX0_moveAll_28 : decode cX0_moveAll 28 = .ok (.invokevirtual 47, 3) := by decide +kernel
theorem dX0_moveAll_31 : decode cX0_moveAll 31 = .ok (.iinc 3 1, 3) := by decide +kernel
theorem dX0_moveAll_34 : decode cX0_moveAll 34 = .ok (.iinc 4 1, 3) := by decide +kernel
theorem dX0_moveAll_37 : decode cX0_moveAll 37 = .ok (.goto (-32), 3) := by decide +kernel
theorem dX0_moveAll_40 : decode cX0_moveAll 40 = .ok (.iload_n 3, 1) := by decide +kernel
theorem dX0_moveAll_41 : decode cX0_moveAll 41 = .ok (.ireturn, 1) := by decide +kernel
theorem dX0_exchange_0 : decode cX0_exchange 0 = .ok (.aload_n 0, 1) := by decide +kernel
theorem dX0_exchange_1 : decode cX0_exchange 1 = .ok (.iload_n 1, 1) := by decide +kernel
theorem dX0_exchange_2 : decode cX0_exchange 2 = .ok (.invokevirtual 62, 3) := by decide +kernel
theorem dX0_exchange_5 : decode cX0_exchange 5 = .ok (.istore_n 3, 1) := by decide +kernel
theorem dX0_exchange_6 : decode cX0_exchange 6 = .ok (.aload_n 0, 1) := by decide +kernel
theorem dX0_exchange_7 : decode cX0_exchange 7 = .ok (.iload_n 1, 1) := by decide +kernel
theorem dX0_exchange_8 : decode cX0_exchange 8 = .ok (.invokevirtual 66, 3) := by decide +kernel
theorem dX0_exchange_11 : decode cX0_exchange 11 = .ok (.istore 4, 2) := by decide +kernel
theorem dX0_exchange_13 : decode cX0_exchange 13 = .ok (.aload_n 0, 1) := by decide +kernel
theorem dX0_exchange_14 : decode cX0_exchange 14 = .ok (.iload_n 1, 1) := by decide +kernel
theorem dX0_exchange_15 : decode cX0_exchange 15 = .ok (.aload_n 0, 1) := by decide +kernel
theorem dX0_exchange_16 : decode cX0_exchange 16 = .ok (.iload_n 2, 1) := by decide +kernel
theorem dX0_exchange_17 : decode cX0_exchange 17 = .ok (.invokevirtual 62, 3) := by decide +kernel
theorem dX0_exchange_20 : decode cX0_exchange 20 = .ok (.invokevirtual 47, 3) := by decide +kernel
theorem dX0_exchange_23 : decode cX0_exchange 23 = .ok (.aload_n 0, 1) := by decide +kernel
theorem dX0_exchange_24 : decode cX0_exchange 24 = .ok (.iload_n 1, 1) := by decide +kernel
theorem dX0_exchange_25 : decode cX0_exchange 25 = .ok (.aload_n 0, 1) := by decide +kernel
theorem dX0_exchange_26 : decode cX0_exchange 26 = .ok (.iload_n 2, 1) := by decide +kernel
theorem dX0_exchange_27 : decode cX0_exchange 27 = .ok (.invokevirtual 66, 3) := by decide +kernel
theorem dX0_exchange_30 : decode cX0_exchange 30 = .ok (.invokevirtual 51, 3) := by decide +kernel
theorem dX0_exchange_33 : decode cX0_exchange 33 = .ok (.aload_n 0, 1) := by decide +kernel
theorem dX0_exchange_34 : decode cX0_exchange 34 = .ok (.iload_n 2, 1) := by decide +kernel
theorem dX0_exchange_35 : decode cX0_exchange 35 = .ok (.iload_n 3, 1) := by decide +kernel
theorem dX0_exchange_36 : decode cX0_exchange 36 = .ok (.invokevirtual 47, 3) := by decide +kernel
theorem dX0_exchange_39 : decode cX0_exchange 39 = .ok (.aload_n 0, 1) := by decide +kernel
theorem dX0_exchange_40 : decode cX0_exchange 40 = .ok (.iload_n 2, 1) := by decide +kernel
theorem dX0_exchange_41 : decode cX0_exchange 41 = .ok (.iload 4, 2) := by decide +kernel
theorem dX0_exchange_43 : decode cX0_exchange 43 = .ok (.invokevirtual 51, 3) := by decide +kernel
theorem dX0_exchange_46 : decode cX0_exchange 46 = .ok (.iconst 0, 1) := by decide +kernel
theorem dX0_exchange_47 : decode cX0_exchange 47 = .ok (.istore 5, 2) := by decide +kernel
theorem dX0_exchange_49 : decode cX0_exchange 49 = .ok (.iload 5, 2) := by decide +kernel
theorem dX0_exchange_51 : decode cX0_exchange 51 = .ok (.aload_n 0, 1) := by decide +kernel
theorem dX0_exchange_52 : decode cX0_exchange 52 = .ok (.getfield 31, 3) := by decide +kernel
theorem dX0_exchange_55 : decode cX0_exchange 55 = .ok (.if_icmp .ge 46, 3) := by decide +kernel
theorem dX0_exchange_58 : decode cX0_exchange 58 = .ok (.aload_n 0, 1) := by decide +kernel
theorem dX0_exchange_59 : decode cX0_exchange 59 = .ok (.iload 5, 2) := by decide +kernel
theorem dX0_exchange_61 : decode cX0_exchange 61 = .ok (.invokevirtual 69, 3) := by decide +kernel
theorem dX0_exchange_64 : decode cX0_exchange 64 = .ok (.iload_n 1, 1) := by decide +kernel
theorem dX0_exchange_65 : decode cX0_exchange 65 = .ok (.if_icmp .ne 13, 3) := by decide +kernel
theorem dX0_exchange_68 : decode cX0_exchange 68 = .ok (.aload_n 0, 1) := by decide +kernel
theorem dX0_exchange_69 : decode cX0_exchange 69 = .ok (.iload 5, 2) := by decide +kernel
theorem dX0_exchange_71 : decode cX0_exchange 71 = .ok (.iload_n 2, 1) := by decide +kernel
theorem dX0_exchange_72 : decode cX0_exchange 72 = .ok (.invokevirtual 72, 3) := by decide +kernel
theorem dX0_exchange_75 : decode cX0_exchange 75 = .ok (.goto 20, 3) := by decide +kernel
theorem dX0_exchange_78 : decode cX0_exchange 78 = .ok (.aload_n 0, 1) := by decide +kernel
theorem dX0_exchange_79 : decode cX0_exchange 79 = .ok (.iload 5, 2) := by decide +kernel
theorem dX0_exchange_81 : decode cX0_exchange 81 = .ok (.invokevirtual 69, 3) := by decide +kernel
theorem dX0_exchange_84 : decode cX0_exchange 84 = .ok (.iload_n 2, 1) := by decide +kernel
theorem dX0_exchange_85 : decode cX0_exchange 85 = .ok (.if_icmp .ne 10, 3) := by decide +kernel
theorem dX0_exchange_88 : decode cX0_exchange 88 = .ok (.aload_n 0, 1) := by decide +kernel
theorem dX0_exchange_89 : decode cX0_exchange 89 = .ok (.iload 5, 2) := by decide +kernel
theorem dX0_exchange_91 : decode cX0_exchange 91 = .ok (.iload_n 1, 1) := by decide +kernel
theorem dX0_exchange_92 : decode cX0_exchange 92 = .ok (.invokevirtual 72, 3) := by decide +kernel
theorem dX0_exchange_95 : decode cX0_exchange 95 = .ok (.iinc 5 1, 3) := by decide +kernel
theorem dX0_exchange_98 : decode cX0_exchange 98 = .ok (.goto (-49), 3) := by decide +kernel
theorem dX0_exchange_101 : decode cX0_exchange 101 = .ok (.return_, 1) := by decide +kernel
theorem dX0_splitOff_0 : decode cX0_splitOff 0 = .ok (.aload_n 0, 1) := by decide +kernel
theorem dX0_splitOff_1 : decode cX0_splitOff 1 = .ok (.aload_n 0, 1) := by decide +kernel
theorem dX0_splitOff_2 : decode cX0_splitOff 2 = .ok (.iload_n 1, 1) := by decide +kernel
theorem dX0_splitOff_3 : decode cX0_splitOff 3 = .ok (.invokevirtual 62, 3) := by decide +kernel
theorem dX0_splitOff_6 : decode cX0_splitOff 6 = .ok (.iload_n 2, 1) := by decide +kernel
theorem dX0_splitOff_7 : decode cX0_splitOff 7 = .ok (.invokevirtual 78, 3) := by decide +kernel
theorem dX0_splitOff_10 : decode cX0_splitOff 10 = .ok (.istore_n 3, 1) := by decide +kernel
theorem dX0_splitOff_11 : decode cX0_splitOff 11 = .ok (.iload_n 3, 1) := by decide +kernel
theorem dX0_splitOff_12 : decode cX0_splitOff 12 = .ok (.iconst (-1), 1) := by decide +kernel
theorem dX0_splitOff_13 : decode cX0_splitOff 13 = .ok (.if_icmp .ne 5, 3) := by decide +kernel
theorem dX0_splitOff_16 : decode cX0_splitOff 16 = .ok (.iconst (-1), 1) := by decide +kernel
theorem dX0_splitOff_17 : decode cX0_splitOff 17 = .ok (.ireturn, 1) := by decide +kernel
theorem dX0_splitOff_18 : decode cX0_splitOff 18 = .ok (.aload_n 0, 1) := by decide +kernel
theorem dX0_splitOff_19 : decode cX0_splitOff 19 = .ok (.iload_n 1, 1) := by decide +kernel
theorem dX0_splitOff_20 : decode cX0_splitOff 20 = .ok (.aload_n 0, 1) := by decide +kernel
theorem dX0_splitOff_21 : decode cX0_splitOff 21 = .ok (.iload_n 1, 1) := by decide +kernel
theorem dX0_splitOff_22 : decode cX0_splitOff 22 = .ok (.invokevirtual 66, 3) := by decide +kernel
theorem dX0_splitOff_25 : decode cX0_splitOff 25 = .ok (.iload_n 2, 1) := by decide +kernel
theorem dX0_splitOff_26 : decode cX0_splitOff 26 = .ok (.iconst (-1), 1) := by decide +kernel
theorem dX0_splitOff_27 : decode cX0_splitOff 27 = .ok (.ixor, 1) := by decide +kernel
theorem dX0_splitOff_28 : decode cX0_splitOff 28 = .ok (.iand, 1) := by decide +kernel
theorem dX0_splitOff_29 : decode cX0_splitOff 29 = .ok (.invokevirtual 51, 3) := by decide +kernel
theorem dX0_splitOff_32 : decode cX0_splitOff 32 = .ok (.aload_n 0, 1) := by decide +kernel
theorem dX0_splitOff_33 : decode cX0_splitOff 33 = .ok (.iload_n 1, 1) := by decide +kernel
theorem dX0_splitOff_34 : decode cX0_splitOff 34 = .ok (.iload_n 2, 1) := by decide +kernel
theorem dX0_splitOff_35 : decode cX0_splitOff 35 = .ok (.iload_n 3, 1) := by decide +kernel
theorem dX0_splitOff_36 : decode cX0_splitOff 36 = .ok (.invokevirtual 81, 3) := by decide +kernel
theorem dX0_splitOff_39 : decode cX0_splitOff 39 = .ok (.iload_n 3, 1) := by decide +kernel
theorem dX0_splitOff_40 : decode cX0_splitOff 40 = .ok (.ireturn, 1) := by decide +kernel
theorem dX0_mergeInto_0 : decode cX0_mergeInto 0 = .ok (.aload_n 0, 1) := by decide +kernel
theorem dX0_mergeInto_1 : decode cX0_mergeInto 1 = .ok (.iload_n 2, 1) := by decide +kernel
theorem dX0_mergeInto_2 : decode cX0_mergeInto 2 = .ok (.aload_n 0, 1) := by decide +kernel
theorem dX0_mergeInto_3 : decode cX0_mergeInto 3 = .ok (.iload_n 2, 1) := by decide +kernel
theorem dX0_mergeInto_4 : decode cX0_mergeInto 4 = .ok (.invokevirtual 66, 3) := by decide +kernel
theorem dX0_mergeInto_7 : decode cX0_mergeInto 7 = .ok (.aload_n 0, 1) := by decide +kernel
theorem dX0_mergeInto_8 : decode cX0_mergeInto 8 = .ok (.iload_n 1, 1) := by decide +kernel
theorem dX0_mergeInto_9 : decode cX0_mergeInto 9 = .ok (.invokevirtual 66, 3) := by decide +kernel
theorem dX0_mergeInto_12 : decode cX0_mergeInto 12 = .ok (.ior, 1) := by decide +kernel
theorem dX0_mergeInto_13 : decode cX0_mergeInto 13 = .ok (.invokevirtual 51, 3) := by decide +kernel
theorem dX0_mergeInto_16 : decode cX0_mergeInto 16 = .ok (.aload_n 0, 1) := by decide +kernel
theorem dX0_mergeInto_17 : decode cX0_mergeInto 17 = .ok (.iload_n 1, 1) := by decide +kernel
theorem dX0_mergeInto_18 : decode cX0_mergeInto 18 = .ok (.bipush 31, 2) := by decide +kernel
theorem dX0_mergeInto_20 : decode cX0_mergeInto 20 = .ok (.iload_n 2, 1) := by decide +kernel
theorem dX0_mergeInto_21 : decode cX0_mergeInto 21 = .ok (.invokevirtual 81, 3) := by decide +kernel
theorem dX0_mergeInto_24 : decode cX0_mergeInto 24 = .ok (.aload_n 0, 1) := by decide +kernel
theorem dX0_mergeInto_25 : decode cX0_mergeInto 25 = .ok (.iload_n 1, 1) := by decide +kernel
theorem dX0_mergeInto_26 : decode cX0_mergeInto 26 = .ok (.invokevirtual 58, 3) := by decide +kernel
theorem dX0_mergeInto_29 : decode cX0_mergeInto 29 = .ok (.iload_n 2, 1) := by decide +kernel
theorem dX0_mergeInto_30 : decode cX0_mergeInto 30 = .ok (.iload_n 1, 1) := by decide +kernel
theorem dX0_mergeInto_31 : decode cX0_mergeInto 31 = .ok (.if_icmp .le 9, 3) := by decide +kernel
theorem dX0_mergeInto_34 : decode cX0_mergeInto 34 = .ok (.iload_n 2, 1) := by decide +kernel
theorem dX0_mergeInto_35 : decode cX0_mergeInto 35 = .ok (.iconst 1, 1) := by decide +kernel
theorem dX0_mergeInto_36 : decode cX0_mergeInto 36 = .ok (.isub, 1) := by decide +kernel
theorem dX0_mergeInto_37 : decode cX0_mergeInto 37 = .ok (.goto 4, 3) := by decide +kernel
theorem dX0_mergeInto_40 : decode cX0_mergeInto 40 = .ok (.iload_n 2, 1) := by decide +kernel
theorem dX0_mergeInto_41 : decode cX0_mergeInto 41 = .ok (.ireturn, 1) := by decide +kernel
theorem dX0_countInsured_0 : decode cX0_countInsured 0 = .ok (.iconst 0, 1) := by decide +kernel
theorem dX0_countInsured_1 : decode cX0_countInsured 1 = .ok (.istore_n 2, 1) := by decide +kernel
theorem dX0_countInsured_2 : decode cX0_countInsured 2 = .ok (.iconst 0, 1) := by decide +kernel
theorem dX0_countInsured_3 : decode cX0_countInsured 3 = .ok (.istore_n 3, 1) := by decide +kernel
theorem dX0_countInsured_4 : decode cX0_countInsured 4 = .ok (.iload_n 3, 1) := by decide +kernel
theorem dX0_countInsured_5 : decode cX0_countInsured 5 = .ok (.aload_n 0, 1) := by decide +kernel
theorem dX0_countInsured_6 : decode cX0_countInsured 6 = .ok (.getfield 28, 3) := by decide +kernel
theorem dX0_countInsured_9 : decode cX0_countInsured 9 = .ok (.if_icmp .ge 21, 3) := by decide +kernel
theorem dX0_countInsured_12 : decode cX0_countInsured 12 = .ok (.aload_n 0, 1) := by decide +kernel
theorem dX0_countInsured_13 : decode cX0_countInsured 13 = .ok (.iload_n 3, 1) := by decide +kernel
theorem dX0_countInsured_14 : decode cX0_countInsured 14 = .ok (.iload_n 1, 1) := by decide +kernel
theorem dX0_countInsured_15 : decode cX0_countInsured 15 = .ok (.invokevirtual 85, 3) := by decide +kernel
theorem dX0_countInsured_18 : decode cX0_countInsured 18 = .ok (.ifCond .eq 6, 3) := by decide +kernel
theorem dX0_countInsured_21 : decode cX0_countInsured 21 = .ok (.iinc 2 1, 3) := by decide +kernel
theorem dX0_countInsured_24 : decode cX0_countInsured 24 = .ok (.iinc 3 1, 3) := by decide +kernel
theorem dX0_countInsured_27 : decode cX0_countInsured 27 = .ok (.goto (-23), 3) := by decide +kernel
theorem dX0_countInsured_30 : decode cX0_countInsured 30 = .ok (.iload_n 2, 1) := by decide +kernel
theorem dX0_countInsured_31 : decode cX0_countInsured 31 = .ok (.ireturn, 1) := by decide +kernel
theorem dX0_fleetsIn_0 : decode cX0_fleetsIn 0 = .ok (.iconst 0, 1) := by decide +kernel
theorem dX0_fleetsIn_1 : decode cX0_fleetsIn 1 = .ok (.istore_n 2, 1) := by decide +kernel
theorem dX0_fleetsIn_2 : decode cX0_fleetsIn 2 = .ok (.iconst 0, 1) := by decide +kernel
theorem dX0_fleetsIn_3 : decode cX0_fleetsIn 3 = .ok (.istore_n 3, 1) := by decide +kernel
theorem dX0_fleetsIn_4 : decode cX0_fleetsIn 4 = .ok (.iload_n 3, 1) := by decide +kernel
theorem dX0_fleetsIn_5 : decode cX0_fleetsIn 5 = .ok (.aload_n 0, 1) := by decide +kernel
theorem dX0_fleetsIn_6 : decode cX0_fleetsIn 6 = .ok (.getfield 28, 3) := by decide +kernel
theorem dX0_fleetsIn_9 : decode cX0_fleetsIn 9 = .ok (.if_icmp .ge 24, 3) := by decide +kernel
theorem dX0_fleetsIn_12 : decode cX0_fleetsIn 12 = .ok (.aload_n 0, 1) := by decide +kernel
theorem dX0_fleetsIn_13 : decode cX0_fleetsIn 13 = .ok (.iload_n 3, 1) := by decide +kernel
theorem dX0_fleetsIn_14 : decode cX0_fleetsIn 14 = .ok (.invokevirtual 62, 3) := by decide +kernel
theorem dX0_fleetsIn_17 : decode cX0_fleetsIn 17 = .ok (.iload_n 1, 1) := by decide +kernel
theorem dX0_fleetsIn_18 : decode cX0_fleetsIn 18 = .ok (.if_icmp .ne 9, 3) := by decide +kernel
theorem dX0_fleetsIn_21 : decode cX0_fleetsIn 21 = .ok (.iload_n 2, 1) := by decide +kernel
theorem dX0_fleetsIn_22 : decode cX0_fleetsIn 22 = .ok (.iconst 1, 1) := by decide +kernel
theorem dX0_fleetsIn_23 : decode cX0_fleetsIn 23 = .ok (.iload_n 3, 1) := by decide +kernel
theorem dX0_fleetsIn_24 : decode cX0_fleetsIn 24 = .ok (.ishl, 1) := by decide +kernel
theorem dX0_fleetsIn_25 : decode cX0_fleetsIn 25 = .ok (.ior, 1) := by decide +kernel
theorem dX0_fleetsIn_26 : decode cX0_fleetsIn 26 = .ok (.istore_n 2, 1) := by decide +kernel
theorem dX0_fleetsIn_27 : decode cX0_fleetsIn 27 = .ok (.iinc 3 1, 3) := by decide +kernel
theorem dX0_fleetsIn_30 : decode cX0_fleetsIn 30 = .ok (.goto (-26), 3) := by decide +kernel
theorem dX0_fleetsIn_33 : decode cX0_fleetsIn 33 = .ok (.iload_n 2, 1) := by decide +kernel
theorem dX0_fleetsIn_34 : decode cX0_fleetsIn 34 = .ok (.ireturn, 1) := by decide +kernel
theorem dX0_fleetsWithoutYears_0 : decode cX0_fleetsWithoutYears 0 = .ok (.iconst 0, 1) := by decide +kernel
theorem dX0_fleetsWithoutYears_1 : decode cX0_fleetsWithoutYears 1 = .ok (.istore_n 1, 1) := by decide +kernel
theorem dX0_fleetsWithoutYears_2 : decode cX0_fleetsWithoutYears 2 = .ok (.iconst 0, 1) := by decide +kernel
theorem dX0_fleetsWithoutYears_3 : decode cX0_fleetsWithoutYears 3 = .ok (.istore_n 2, 1) := by decide +kernel
theorem dX0_fleetsWithoutYears_4 : decode cX0_fleetsWithoutYears 4 = .ok (.iload_n 2, 1) := by decide +kernel
theorem dX0_fleetsWithoutYears_5 : decode cX0_fleetsWithoutYears 5 = .ok (.aload_n 0, 1) := by decide +kernel
theorem dX0_fleetsWithoutYears_6 : decode cX0_fleetsWithoutYears 6 = .ok (.getfield 28, 3) := by decide +kernel
theorem dX0_fleetsWithoutYears_9 : decode cX0_fleetsWithoutYears 9 = .ok (.if_icmp .ge 20, 3) := by decide +kernel
theorem dX0_fleetsWithoutYears_12 : decode cX0_fleetsWithoutYears 12 = .ok (.aload_n 0, 1) := by decide +kernel
theorem dX0_fleetsWithoutYears_13 : decode cX0_fleetsWithoutYears 13 = .ok (.iload_n 2, 1) := by decide +kernel
theorem dX0_fleetsWithoutYears_14 : decode cX0_fleetsWithoutYears 14 = .ok (.invokevirtual 66, 3) := by decide +kernel
theorem dX0_fleetsWithoutYears_17 : decode cX0_fleetsWithoutYears 17 = .ok (.ifCond .ne 6, 3) := by decide +kernel
theorem dX0_fleetsWithoutYears_20 : decode cX0_fleetsWithoutYears 20 = .ok (.iinc 1 1, 3) := by decide +kernel
theorem dX0_fleetsWithoutYears_23 : decode cX0_fleetsWithoutYears 23 = .ok (.iinc 2 1, 3) := by decide +kernel
theorem dX0_fleetsWithoutYears_26 : decode cX0_fleetsWithoutYears 26 = .ok (.goto (-22), 3) := by decide +kernel
theorem dX0_fleetsWithoutYears_29 : decode cX0_fleetsWithoutYears 29 = .ok (.iload_n 1, 1) := by decide +kernel
theorem dX0_fleetsWithoutYears_30 : decode cX0_fleetsWithoutYears 30 = .ok (.ireturn, 1) := by decide +kernel
theorem dX0_yearsOfAll_0 : decode cX0_yearsOfAll 0 = .ok (.iconst 0, 1) := by decide +kernel
theorem dX0_yearsOfAll_1 : decode cX0_yearsOfAll 1 = .ok (.istore_n 1, 1) := by decide +kernel
theorem dX0_yearsOfAll_2 : decode cX0_yearsOfAll 2 = .ok (.iconst 0, 1) := by decide +kernel
theorem dX0_yearsOfAll_3 : decode cX0_yearsOfAll 3 = .ok (.istore_n 2, 1) := by decide +kernel
theorem dX0_yearsOfAll_4 : decode cX0_yearsOfAll 4 = .ok (.iload_n 2, 1) := by decide +kernel
theorem dX0_yearsOfAll_5 : decode cX0_yearsOfAll 5 = .ok (.aload_n 0, 1) := by decide +kernel
theorem dX0_yearsOfAll_6 : decode cX0_yearsOfAll 6 = .ok (.getfield 28, 3) := by decide +kernel
theorem dX0_yearsOfAll_9 : decode cX0_yearsOfAll 9 = .ok (.if_icmp .ge 17, 3) := by decide +kernel
theorem dX0_yearsOfAll_12 : decode cX0_yearsOfAll 12 = .ok (.iload_n 1, 1) := by decide +kernel
theorem dX0_yearsOfAll_13 : decode cX0_yearsOfAll 13 = .ok (.aload_n 0, 1) := by decide +kernel
theorem dX0_yearsOfAll_14 : decode cX0_yearsOfAll 14 = .ok (.iload_n 2, 1) := by decide +kernel
theorem dX0_yearsOfAll_15 : decode cX0_yearsOfAll 15 = .ok (.invokevirtual 66, 3) := by decide +kernel
theorem dX0_yearsOfAll_18 : decode cX0_yearsOfAll 18 = .ok (.ior, 1) := by decide +kernel
theorem dX0_yearsOfAll_19 : decode cX0_yearsOfAll 19 = .ok (.istore_n 1, 1) := by decide +kernel
theorem dX0_yearsOfAll_20 : decode cX0_yearsOfAll 20 = .ok (.iinc 2 1, 3) := by decide +kernel
theorem dX0_yearsOfAll_23 : decode cX0_yearsOfAll 23 = .ok (.goto (-19), 3) := by decide +kernel
theorem dX0_yearsOfAll_26 : decode cX0_yearsOfAll 26 = .ok (.iload_n 1, 1) := by decide +kernel
theorem dX0_yearsOfAll_27 : decode cX0_yearsOfAll 27 = .ok (.ireturn, 1) := by decide +kernel
theorem dX0_hasClaim_0 : decode cX0_hasClaim 0 = .ok (.iload_n 1, 1) := by decide +kernel
theorem dX0_hasClaim_1 : decode cX0_hasClaim 1 = .ok (.ifCond .lt 21, 3) := by decide +kernel
theorem dX0_hasClaim_4 : decode cX0_hasClaim 4 = .ok (.iload_n 1, 1) := by decide +kernel
theorem dX0_hasClaim_5 : decode cX0_hasClaim 5 = .ok (.aload_n 0, 1) := by decide +kernel
theorem dX0_hasClaim_6 : decode cX0_hasClaim 6 = .ok (.getfield 31, 3) := by decide +kernel
theorem dX0_hasClaim_9 : decode cX0_hasClaim 9 = .ok (.if_icmp .ge 13, 3) := by decide +kernel
theorem dX0_hasClaim_12 : decode cX0_hasClaim 12 = .ok (.iload_n 1, 1) := by decide +kernel
theorem dX0_hasClaim_13 : decode cX0_hasClaim 13 = .ok (.bipush 40, 2) := by decide +kernel
theorem dX0_hasClaim_15 : decode cX0_hasClaim 15 = .ok (.if_icmp .ge 7, 3) := by decide +kernel
theorem dX0_hasClaim_18 : decode cX0_hasClaim 18 = .ok (.iconst 1, 1) := by decide +kernel
theorem dX0_hasClaim_19 : decode cX0_hasClaim 19 = .ok (.goto 4, 3) := by decide +kernel
theorem dX0_hasClaim_22 : decode cX0_hasClaim 22 = .ok (.iconst 0, 1) := by decide +kernel
theorem dX0_hasClaim_23 : decode cX0_hasClaim 23 = .ok (.ireturn, 1) := by decide +kernel
theorem dX0_fleetOf_0 : decode cX0_fleetOf 0 = .ok (.aload_n 0, 1) := by decide +kernel
theorem dX0_fleetOf_1 : decode cX0_fleetOf 1 = .ok (.iload_n 1, 1) := by decide +kernel
theorem dX0_fleetOf_2 : decode cX0_fleetOf 2 = .ok (.invokevirtual 89, 3) := by decide +kernel
theorem dX0_fleetOf_5 : decode cX0_fleetOf 5 = .ok (.ifCond .eq 15, 3) := by decide +kernel
theorem dX0_fleetOf_8 : decode cX0_fleetOf 8 = .ok (.aload_n 0, 1) := by decide +kernel
theorem dX0_fleetOf_9 : decode cX0_fleetOf 9 = .ok (.getfield 25, 3) := by decide +kernel
theorem dX0_fleetOf_12 : decode cX0_fleetOf 12 = .ok (.iload_n 1, 1) := by decide +kernel
theorem dX0_fleetOf_13 : decode cX0_fleetOf 13 = .ok (.iaload, 1) := by decide +kernel
theorem dX0_fleetOf_14 : decode cX0_fleetOf 14 = .ok (.bipush 10, 2) := by decide +kernel
theorem dX0_fleetOf_16 : decode cX0_fleetOf 16 = .ok (.ishr, 1) := by decide +kernel
theorem dX0_fleetOf_17 : decode cX0_fleetOf 17 = .ok (.goto 4, 3) := by decide +kernel
theorem dX0_fleetOf_20 : decode cX0_fleetOf 20 = .ok (.iconst (-1), 1) := by decide +kernel
theorem dX0_fleetOf_21 : decode cX0_fleetOf 21 = .ok (.ireturn, 1) := by decide +kernel
theorem dX0_yearOf_0 : decode cX0_yearOf 0 = .ok (.aload_n 0, 1) := by decide +kernel
theorem dX0_yearOf_1 : decode cX0_yearOf 1 = .ok (.iload_n 1, 1) := by decide +kernel
theorem dX0_yearOf_2 : decode cX0_yearOf 2 = .ok (.invokevirtual 89, 3) := by decide +kernel
theorem dX0_yearOf_5 : decode cX0_yearOf 5 = .ok (.ifCond .eq 18, 3) := by decide +kernel
theorem dX0_yearOf_8 : decode cX0_yearOf 8 = .ok (.aload_n 0, 1) := by decide +kernel
theorem dX0_yearOf_9 : decode cX0_yearOf 9 = .ok (.getfield 25, 3) := by decide +kernel
theorem dX0_yearOf_12 : decode cX0_yearOf 12 = .ok (.iload_n 1, 1) := by decide +kernel
theorem dX0_yearOf_13 : decode cX0_yearOf 13 = .ok (.iaload, 1) := by decide +kernel
theorem dX0_yearOf_14 : decode cX0_yearOf 14 = .ok (.bipush 7, 2) := by decide +kernel
theorem dX0_yearOf_16 : decode cX0_yearOf 16 = .ok (.ishr, 1) := by decide +kernel
theorem dX0_yearOf_17 : decode cX0_yearOf 17 = .ok (.bipush 7, 2) := by decide +kernel
theorem dX0_yearOf_19 : decode cX0_yearOf 19 = .ok (.iand, 1) := by decide +kernel
theorem dX0_yearOf_20 : decode cX0_yearOf 20 = .ok (.goto 4, 3) := by decide +kernel
theorem dX0_yearOf_23 : decode cX0_yearOf 23 = .ok (.iconst (-1), 1) := by decide +kernel
theorem dX0_yearOf_24 : decode cX0_yearOf 24 = .ok (.ireturn, 1) := by decide +kernel
theorem dX0_amountOf_0 : decode cX0_amountOf 0 = .ok (.aload_n 0, 1) := by decide +kernel
theorem dX0_amountOf_1 : decode cX0_amountOf 1 = .ok (.iload_n 1, 1) := by decide +kernel
theorem dX0_amountOf_2 : decode cX0_amountOf 2 = .ok (.invokevirtual 89, 3) := by decide +kernel
theorem dX0_amountOf_5 : decode cX0_amountOf 5 = .ok (.ifCond .eq 15, 3) := by decide +kernel
theorem dX0_amountOf_8 : decode cX0_amountOf 8 = .ok (.aload_n 0, 1) := by decide +kernel
theorem dX0_amountOf_9 : decode cX0_amountOf 9 = .ok (.getfield 25, 3) := by decide +kernel
theorem dX0_amountOf_12 : decode cX0_amountOf 12 = .ok (.iload_n 1, 1) := by decide +kernel
theorem dX0_amountOf_13 : decode cX0_amountOf 13 = .ok (.iaload, 1) := by decide +kernel
theorem dX0_amountOf_14 : decode cX0_amountOf 14 = .ok (.bipush 127, 2) := by decide +kernel
theorem dX0_amountOf_16 : decode cX0_amountOf 16 = .ok (.iand, 1) := by decide +kernel
theorem dX0_amountOf_17 : decode cX0_amountOf 17 = .ok (.goto 4, 3) := by decide +kernel
theorem dX0_amountOf_20 : decode cX0_amountOf 20 = .ok (.iconst 0, 1) := by decide +kernel
theorem dX0_amountOf_21 : decode cX0_amountOf 21 = .ok (.ireturn, 1) := by decide +kernel
theorem dX0_isOf_0 : decode cX0_isOf 0 = .ok (.aload_n 0, 1) := by decide +kernel
theorem dX0_isOf_1 : decode cX0_isOf 1 = .ok (.iload_n 1, 1) := by decide +kernel
theorem dX0_isOf_2 : decode cX0_isOf 2 = .ok (.invokevirtual 89, 3) := by decide +kernel
theorem dX0_isOf_5 : decode cX0_isOf 5 = .ok (.ifCond .eq 40, 3) := by decide +kernel
theorem dX0_isOf_8 : decode cX0_isOf 8 = .ok (.aload_n 0, 1) := by decide +kernel
theorem dX0_isOf_9 : decode cX0_isOf 9 = .ok (.getfield 25, 3) := by decide +kernel
theorem dX0_isOf_12 : decode cX0_isOf 12 = .ok (.iload_n 1, 1) := by decide +kernel
theorem dX0_isOf_13 : decode cX0_isOf 13 = .ok (.iaload, 1) := by decide +kernel
theorem dX0_isOf_14 : decode cX0_isOf 14 = .ok (.bipush 10, 2) := by decide +kernel
theorem dX0_isOf_16 : decode cX0_isOf 16 = .ok (.ishr, 1) := by decide +kernel
theorem dX0_isOf_17 : decode cX0_isOf 17 = .ok (.iload_n 2, 1) := by decide +kernel
theorem dX0_isOf_18 : decode cX0_isOf 18 = .ok (.if_icmp .ne 27, 3) := by decide +kernel
theorem dX0_isOf_21 : decode cX0_isOf 21 = .ok (.iload_n 3, 1) := by decide +kernel
theorem dX0_isOf_22 : decode cX0_isOf 22 = .ok (.aload_n 0, 1) := by decide +kernel
theorem dX0_isOf_23 : decode cX0_isOf 23 = .ok (.getfield 25, 3) := by decide +kernel
theorem dX0_isOf_26 : decode cX0_isOf 26 = .ok (.iload_n 1, 1) := by decide +kernel
theorem dX0_isOf_27 : decode cX0_isOf 27 = .ok (.iaload, 1) := by decide +kernel
theorem dX0_isOf_28 : decode cX0_isOf 28 = .ok (.bipush 7, 2) := by decide +kernel
theorem dX0_isOf_30 : decode cX0_isOf 30 = .ok (.ishr, 1) := by decide +kernel
theorem dX0_isOf_31 : decode cX0_isOf 31 = .ok (.bipush 7, 2) := by decide +kernel
theorem dX0_isOf_33 : decode cX0_isOf 33 = .ok (.iand, 1) := by decide +kernel
theorem dX0_isOf_34 : decode cX0_isOf 34 = .ok (.ishr, 1) := by decide +kernel
theorem dX0_isOf_35 : decode cX0_isOf 35 = .ok (.iconst 1, 1) := by decide +kernel
theorem dX0_isOf_36 : decode cX0_isOf 36 = .ok (.iand, 1) := by decide +kernel
theorem dX0_isOf_37 : decode cX0_isOf 37 = .ok (.iconst 1, 1) := by decide +kernel
theorem dX0_isOf_38 : decode cX0_isOf 38 = .ok (.if_icmp .ne 7, 3) := by decide +kernel
theorem dX0_isOf_41 : decode cX0_isOf 41 = .ok (.iconst 1, 1) := by decide +kernel
theorem dX0_isOf_42 : decode cX0_isOf 42 = .ok (.goto 4, 3) := by decide +kernel
theorem dX0_isOf_45 : decode cX0_isOf 45 = .ok (.iconst 0, 1) := by decide +kernel
theorem dX0_isOf_46 : decode cX0_isOf 46 = .ok (.ireturn, 1) := by decide +kernel
theorem dX0_countedOf_0 : decode cX0_countedOf 0 = .ok (.aload_n 0, 1) := by decide +kernel
theorem dX0_countedOf_1 : decode cX0_countedOf 1 = .ok (.iload_n 1, 1) := by decide +kernel
theorem dX0_countedOf_2 : decode cX0_countedOf 2 = .ok (.invokevirtual 89, 3) := by decide +kernel
theorem dX0_countedOf_5 : decode cX0_countedOf 5 = .ok (.ifCond .eq 22, 3) := by decide +kernel
theorem dX0_countedOf_8 : decode cX0_countedOf 8 = .ok (.aload_n 0, 1) := by decide +kernel
theorem dX0_countedOf_9 : decode cX0_countedOf 9 = .ok (.getfield 25, 3) := by decide +kernel
theorem dX0_countedOf_12 : decode cX0_countedOf 12 = .ok (.iload_n 1, 1) := by decide +kernel
theorem dX0_countedOf_13 : decode cX0_countedOf 13 = .ok (.iaload, 1) := by decide +kernel
theorem dX0_countedOf_14 : decode cX0_countedOf 14 = .ok (.bipush 127, 2) := by decide +kernel
theorem dX0_countedOf_16 : decode cX0_countedOf 16 = .ok (.iand, 1) := by decide +kernel
theorem dX0_countedOf_17 : decode cX0_countedOf 17 = .ok (.aload_n 0, 1) := by decide +kernel
theorem dX0_countedOf_18 : decode cX0_countedOf 18 = .ok (.getfield 9, 3) := by decide +kernel
theorem dX0_countedOf_21 : decode cX0_countedOf 21 = .ok (.invokestatic 92, 3) := by decide +kernel
theorem dX0_countedOf_24 : decode cX0_countedOf 24 = .ok (.goto 4, 3) := by decide +kernel
theorem dX0_countedOf_27 : decode cX0_countedOf 27 = .ok (.iconst 0, 1) := by decide +kernel
theorem dX0_countedOf_28 : decode cX0_countedOf 28 = .ok (.ireturn, 1) := by decide +kernel
theorem dX0_putClaim_0 : decode cX0_putClaim 0 = .ok (.aload_n 0, 1) := by decide +kernel
theorem dX0_putClaim_1 : decode cX0_putClaim 1 = .ok (.iload_n 1, 1) := by decide +kernel
theorem dX0_putClaim_2 : decode cX0_putClaim 2 = .ok (.invokevirtual 89, 3) := by decide +kernel
theorem dX0_putClaim_5 : decode cX0_putClaim 5 = .ok (.ifCond .eq 21, 3) := by decide +kernel
theorem dX0_putClaim_8 : decode cX0_putClaim 8 = .ok (.aload_n 0, 1) := by decide +kernel
theorem dX0_putClaim_9 : decode cX0_putClaim 9 = .ok (.getfield 25, 3) := by decide +kernel
theorem dX0_putClaim_12 : decode cX0_putClaim 12 = .ok (.iload_n 1, 1) := by decide +kernel
theorem dX0_putClaim_13 : decode cX0_putClaim 13 = .ok (.iload_n 2, 1) := by decide +kernel
theorem dX0_putClaim_14 : decode cX0_putClaim 14 = .ok (.bipush 10, 2) := by decide +kernel
theorem dX0_putClaim_16 : decode cX0_putClaim 16 = .ok (.ishl, 1) := by decide +kernel
theorem dX0_putClaim_17 : decode cX0_putClaim 17 = .ok (.iload_n 3, 1) := by decide +kernel
theorem dX0_putClaim_18 : decode cX0_putClaim 18 = .ok (.bipush 7, 2) := by decide +kernel
theorem dX0_putClaim_20 : decode cX0_putClaim 20 = .ok (.ishl, 1) := by decide +kernel
theorem dX0_putClaim_21 : decode cX0_putClaim 21 = .ok (.ior, 1) := by decide +kernel
theorem dX0_putClaim_22 : decode cX0_putClaim 22 = .ok (.iload 4, 2) := by decide +kernel
theorem dX0_putClaim_24 : decode cX0_putClaim 24 = .ok (.ior, 1) := by decide +kernel
theorem dX0_putClaim_25 : decode cX0_putClaim 25 = .ok (.iastore, 1) := by decide +kernel
theorem dX0_putClaim_26 : decode cX0_putClaim 26 = .ok (.return_, 1) := by decide +kernel
theorem dX0_putAmount_0 : decode cX0_putAmount 0 = .ok (.aload_n 0, 1) := by decide +kernel
theorem dX0_putAmount_1 : decode cX0_putAmount 1 = .ok (.iload_n 1, 1) := by decide +kernel
theorem dX0_putAmount_2 : decode cX0_putAmount 2 = .ok (.aload_n 0, 1) := by decide +kernel
theorem dX0_putAmount_3 : decode cX0_putAmount 3 = .ok (.iload_n 1, 1) := by decide +kernel
theorem dX0_putAmount_4 : decode cX0_putAmount 4 = .ok (.invokevirtual 69, 3) := by decide +kernel
theorem dX0_putAmount_7 : decode cX0_putAmount 7 = .ok (.aload_n 0, 1) := by decide +kernel
theorem dX0_putAmount_8 : decode cX0_putAmount 8 = .ok (.iload_n 1, 1) := by decide +kernel
theorem dX0_putAmount_9 : decode cX0_putAmount 9 = .ok (.invokevirtual 97, 3) := by decide +kernel
theorem dX0_putAmount_12 : decode cX0_putAmount 12 = .ok (.iload_n 2, 1) := by decide +kernel
theorem dX0_putAmount_13 : decode cX0_putAmount 13 = .ok (.invokevirtual 100, 3) := by decide +kernel
theorem dX0_putAmount_16 : decode cX0_putAmount 16 = .ok (.return_, 1) := by decide +kernel
theorem dX0_putFleet_0 : decode cX0_putFleet 0 = .ok (.aload_n 0, 1) := by decide +kernel
theorem dX0_putFleet_1 : decode cX0_putFleet 1 = .ok (.iload_n 1, 1) := by decide +kernel
theorem dX0_putFleet_2 : decode cX0_putFleet 2 = .ok (.iload_n 2, 1) := by decide +kernel
theorem dX0_putFleet_3 : decode cX0_putFleet 3 = .ok (.aload_n 0, 1) := by decide +kernel
theorem dX0_putFleet_4 : decode cX0_putFleet 4 = .ok (.iload_n 1, 1) := by decide +kernel
theorem dX0_putFleet_5 : decode cX0_putFleet 5 = .ok (.invokevirtual 97, 3) := by decide +kernel
theorem dX0_putFleet_8 : decode cX0_putFleet 8 = .ok (.aload_n 0, 1) := by decide +kernel
theorem dX0_putFleet_9 : decode cX0_putFleet 9 = .ok (.iload_n 1, 1) := by decide +kernel
theorem dX0_putFleet_10 : decode cX0_putFleet 10 = .ok (.invokevirtual 104, 3) := by decide +kernel
theorem dX0_putFleet_13 : decode cX0_putFleet 13 = .ok (.invokevirtual 100, 3) := by decide +kernel
theorem dX0_putFleet_16 : decode cX0_putFleet 16 = .ok (.return_, 1) := by decide +kernel
theorem dX0_canClaim_0 : decode cX0_canClaim 0 = .ok (.aload_n 0, 1) := by decide +kernel
theorem dX0_canClaim_1 : decode cX0_canClaim 1 = .ok (.getfield 31, 3) := by decide +kernel
theorem dX0_canClaim_4 : decode cX0_canClaim 4 = .ok (.bipush 40, 2) := by decide +kernel
theorem dX0_canClaim_6 : decode cX0_canClaim 6 = .ok (.if_icmp .ge 12, 3) := by decide +kernel
theorem dX0_canClaim_9 : decode cX0_canClaim 9 = .ok (.aload_n 0, 1) := by decide +kernel
theorem dX0_canClaim_10 : decode cX0_canClaim 10 = .ok (.iload_n 1, 1) := by decide +kernel
theorem dX0_canClaim_11 : decode cX0_canClaim 11 = .ok (.iload_n 2, 1) := by decide +kernel
theorem dX0_canClaim_12 : decode cX0_canClaim 12 = .ok (.invokevirtual 85, 3) := by decide +kernel
theorem dX0_canClaim_15 : decode cX0_canClaim 15 = .ok (.ifCond .ne 5, 3) := by decide +kernel
theorem dX0_canClaim_18 : decode cX0_canClaim 18 = .ok (.iconst 0, 1) := by decide +kernel
theorem dX0_canClaim_19 : decode cX0_canClaim 19 = .ok (.ireturn, 1) := by decide +kernel
theorem dX0_canClaim_20 : decode cX0_canClaim 20 = .ok (.iconst 0, 1) := by decide +kernel
theorem dX0_canClaim_21 : decode cX0_canClaim 21 = .ok (.istore_n 3, 1) := by decide +kernel
theorem dX0_canClaim_22 : decode cX0_canClaim 22 = .ok (.iconst 0, 1) := by decide +kernel
theorem dX0_canClaim_23 : decode cX0_canClaim 23 = .ok (.istore 4, 2) := by decide +kernel
theorem dX0_canClaim_25 : decode cX0_canClaim 25 = .ok (.iload 4, 2) := by decide +kernel
theorem dX0_canClaim_27 : decode cX0_canClaim 27 = .ok (.aload_n 0, 1) := by decide +kernel
theorem dX0_canClaim_28 : decode cX0_canClaim 28 = .ok (.getfield 31, 3) := by decide +kernel
theorem dX0_canClaim_31 : decode cX0_canClaim 31 = .ok (.if_icmp .ge 30, 3) := by decide +kernel
theorem dX0_canClaim_34 : decode cX0_canClaim 34 = .ok (.iload_n 3, 1) := by decide +kernel
theorem dX0_canClaim_35 : decode cX0_canClaim 35 = .ok (.aload_n 0, 1) := by decide +kernel
theorem dX0_canClaim_36 : decode cX0_canClaim 36 = .ok (.iload 4, 2) := by decide +kernel
theorem dX0_canClaim_38 : decode cX0_canClaim 38 = .ok (.iload_n 1, 1) := by decide +kernel
theorem dX0_canClaim_39 : decode cX0_canClaim 39 = .ok (.iconst 1, 1) := by decide +kernel
theorem dX0_canClaim_40 : decode cX0_canClaim 40 = .ok (.iload_n 2, 1) := by decide +kernel
theorem dX0_canClaim_41 : decode cX0_canClaim 41 = .ok (.ishl, 1) := by decide +kernel
theorem dX0_canClaim_42 : decode cX0_canClaim 42 = .ok (.invokevirtual 107, 3) := by decide +kernel
theorem dX0_canClaim_45 : decode cX0_canClaim 45 = .ok (.ifCond .eq 7, 3) := by decide +kernel
theorem dX0_canClaim_48 : decode cX0_canClaim 48 = .ok (.iconst 1, 1) := by decide +kernel
theorem dX0_canClaim_49 : decode cX0_canClaim 49 = .ok (.goto 4, 3) := by decide +kernel
theorem dX0_canClaim_52 : decode cX0_canClaim 52 = .ok (.iconst 0, 1) := by decide +kernel
theorem dX0_canClaim_53 : decode cX0_canClaim 53 = .ok (.iadd, 1) := by decide +kernel
theorem dX0_canClaim_54 : decode cX0_canClaim 54 = .ok (.istore_n 3, 1) := by decide +kernel
theorem dX0_canClaim_55 : decode cX0_canClaim 55 = .ok (.iinc 4 1, 3) := by decide +kernel
theorem dX0_canClaim_58 : decode cX0_canClaim 58 = .ok (.goto (-33), 3) := by decide +kernel
theorem dX0_canClaim_61 : decode cX0_canClaim 61 = .ok (.iload_n 3, 1) := by decide +kernel
theorem dX0_canClaim_62 : decode cX0_canClaim 62 = .ok (.iconst 4, 1) := by decide +kernel
theorem dX0_canClaim_63 : decode cX0_canClaim 63 = .ok (.if_icmp .ge 7, 3) := by decide +kernel
theorem dX0_canClaim_66 : decode cX0_canClaim 66 = .ok (.iconst 1, 1) := by decide +kernel
theorem dX0_canClaim_67 : decode cX0_canClaim 67 = .ok (.goto 4, 3) := by decide +kernel
theorem dX0_canClaim_70 : decode cX0_canClaim 70 = .ok (.iconst 0, 1) := by decide +kernel
theorem dX0_canClaim_71 : decode cX0_canClaim 71 = .ok (.ireturn, 1) := by decide +kernel
theorem dX0_addClaim_0 : decode cX0_addClaim 0 = .ok (.aload_n 0, 1) := by decide +kernel
theorem dX0_addClaim_1 : decode cX0_addClaim 1 = .ok (.getfield 31, 3) := by decide +kernel
theorem dX0_addClaim_4 : decode cX0_addClaim 4 = .ok (.bipush 40, 2) := by decide +kernel
theorem dX0_addClaim_6 : decode cX0_addClaim 6 = .ok (.if_icmp .lt 5, 3) := by decide +kernel
theorem dX0_addClaim_9 : decode cX0_addClaim 9 = .ok (.iconst (-1), 1) := by decide +kernel
theorem dX0_addClaim_10 : decode cX0_addClaim 10 = .ok (.ireturn, 1) := by decide +kernel
theorem dX0_addClaim_11 : decode cX0_addClaim 11 = .ok (.aload_n 0, 1) := by decide +kernel
theorem dX0_addClaim_12 : decode cX0_addClaim 12 = .ok (.dup, 1) := by decide +kernel
theorem dX0_addClaim_13 : decode cX0_addClaim 13 = .ok (.getfield 31, 3) := by decide +kernel
theorem dX0_addClaim_16 : decode cX0_addClaim 16 = .ok (.iconst 1, 1) := by decide +kernel
theorem dX0_addClaim_17 : decode cX0_addClaim 17 = .ok (.iadd, 1) := by decide +kernel
theorem dX0_addClaim_18 : decode cX0_addClaim 18 = .ok (.putfield 31, 3) := by decide +kernel
theorem dX0_addClaim_21 : decode cX0_addClaim 21 = .ok (.aload_n 0, 1) := by decide +kernel
theorem dX0_addClaim_22 : decode cX0_addClaim 22 = .ok (.aload_n 0, 1) := by decide +kernel
theorem dX0_addClaim_23 : decode cX0_addClaim 23 = .ok (.getfield 31, 3) := by decide +kernel
theorem dX0_addClaim_26 : decode cX0_addClaim 26 = .ok (.iconst 1, 1) := by decide +kernel
theorem dX0_addClaim_27 : decode cX0_addClaim 27 = .ok (.isub, 1) := by decide +kernel
theorem dX0_addClaim_28 : decode cX0_addClaim 28 = .ok (.iload_n 1, 1) := by decide +kernel
theorem dX0_addClaim_29 : decode cX0_addClaim 29 = .ok (.iload_n 2, 1) := by decide +kernel
theorem dX0_addClaim_30 : decode cX0_addClaim 30 = .ok (.iload_n 3, 1) := by decide +kernel
theorem dX0_addClaim_31 : decode cX0_addClaim 31 = .ok (.invokevirtual 100, 3) := by decide +kernel
theorem dX0_addClaim_34 : decode cX0_addClaim 34 = .ok (.aload_n 0, 1) := by decide +kernel
theorem dX0_addClaim_35 : decode cX0_addClaim 35 = .ok (.getfield 31, 3) := by decide +kernel
theorem dX0_addClaim_38 : decode cX0_addClaim 38 = .ok (.iconst 1, 1) := by decide +kernel
theorem dX0_addClaim_39 : decode cX0_addClaim 39 = .ok (.isub, 1) := by decide +kernel
theorem dX0_addClaim_40 : decode cX0_addClaim 40 = .ok (.ireturn, 1) := by decide +kernel
theorem dX0_dropClaim_0 : decode cX0_dropClaim 0 = .ok (.aload_n 0, 1) := by decide +kernel
theorem dX0_dropClaim_1 : decode cX0_dropClaim 1 = .ok (.iload_n 1, 1) := by decide +kernel
theorem dX0_dropClaim_2 : decode cX0_dropClaim 2 = .ok (.invokevirtual 89, 3) := by decide +kernel
theorem dX0_dropClaim_5 : decode cX0_dropClaim 5 = .ok (.ifCond .eq 36, 3) := by decide +kernel
theorem dX0_dropClaim_8 : decode cX0_dropClaim 8 = .ok (.aload_n 0, 1) := by decide +kernel
theorem dX0_dropClaim_9 : decode cX0_dropClaim 9 = .ok (.getfield 25, 3) := by decide +kernel
theorem dX0_dropClaim_12 : decode cX0_dropClaim 12 = .ok (.iload_n 1, 1) := by decide +kernel
theorem dX0_dropClaim_13 : decode cX0_dropClaim 13 = .ok (.iconst 1, 1) := by decide +kernel
theorem dX0_dropClaim_14 : decode cX0_dropClaim 14 = .ok (.iadd, 1) := by decide +kernel
theorem dX0_dropClaim_15 : decode cX0_dropClaim 15 = .ok (.aload_n 0, 1) := by decide +kernel
theorem dX0_dropClaim_16 : decode cX0_dropClaim 16 = .ok (.getfield 25, 3) := by decide +kernel
theorem dX0_dropClaim_19 : decode cX0_dropClaim 19 = .ok (.iload_n 1, 1) := by decide +kernel
theorem dX0_dropClaim_20 : decode cX0_dropClaim 20 = .ok (.aload_n 0, 1) := by decide +kernel
theorem dX0_dropClaim_21 : decode cX0_dropClaim 21 = .ok (.getfield 31, 3) := by decide +kernel
theorem dX0_dropClaim_24 : decode cX0_dropClaim 24 = .ok (.iload_n 1, 1) := by decide +kernel
theorem dX0_dropClaim_25 : decode cX0_dropClaim 25 = .ok (.isub, 1) := by decide +kernel
theorem dX0_dropClaim_26 : decode cX0_dropClaim 26 = .ok (.iconst 1, 1) := by decide +kernel
theorem dX0_dropClaim_27 : decode cX0_dropClaim 27 = .ok (.isub, 1) := by decide +kernel
theorem dX0_dropClaim_28 : decode cX0_dropClaim 28 = .ok (.invokestatic 34, 3) := by decide +kernel
theorem dX0_dropClaim_31 : decode cX0_dropClaim 31 = .ok (.aload_n 0, 1) := by decide +kernel
theorem dX0_dropClaim_32 : decode cX0_dropClaim 32 = .ok (.dup, 1) := by decide +kernel
theorem dX0_dropClaim_33 : decode cX0_dropClaim 33 = .ok (.getfield 31, 3) := by decide +kernel
theorem dX0_dropClaim_36 : decode cX0_dropClaim 36 = .ok (.iconst 1, 1) := by decide +kernel
theorem dX0_dropClaim_37 : decode cX0_dropClaim 37 = .ok (.isub, 1) := by decide +kernel
theorem dX0_dropClaim_38 : decode cX0_dropClaim 38 = .ok (.putfield 31, 3) := by decide +kernel
theorem dX0_dropClaim_41 : decode cX0_dropClaim 41 = .ok (.return_, 1) := by decide +kernel
theorem dX0_dropClaimsOf_0 : decode cX0_dropClaimsOf 0 = .ok (.aload_n 0, 1) := by decide +kernel
theorem dX0_dropClaimsOf_1 : decode cX0_dropClaimsOf 1 = .ok (.getfield 31, 3) := by decide +kernel
theorem dX0_dropClaimsOf_4 : decode cX0_dropClaimsOf 4 = .ok (.istore_n 3, 1) := by decide +kernel
theorem dX0_dropClaimsOf_5 : decode cX0_dropClaimsOf 5 = .ok (.iconst 0, 1) := by decide +kernel
theorem dX0_dropClaimsOf_6 : decode cX0_dropClaimsOf 6 = .ok (.istore 4, 2) := by decide +kernel
theorem dX0_dropClaimsOf_8 : decode cX0_dropClaimsOf 8 = .ok (.iconst 0, 1) := by decide +kernel
theorem dX0_dropClaimsOf_9 : decode cX0_dropClaimsOf 9 = .ok (.istore 5, 2) := by decide +kernel
theorem dX0_dropClaimsOf_11 : decode cX0_dropClaimsOf 11 = .ok (.iload 5, 2) := by decide +kernel
theorem dX0_dropClaimsOf_13 : decode cX0_dropClaimsOf 13 = .ok (.iload_n 3, 1) := by decide +kernel
theorem dX0_dropClaimsOf_14 : decode cX0_dropClaimsOf 14 = .ok (.if_icmp .ge 47, 3) := by decide +kernel
theorem dX0_dropClaimsOf_17 : decode cX0_dropClaimsOf 17 = .ok (.aload_n 0, 1) := by decide +kernel
theorem dX0_dropClaimsOf_18 : decode cX0_dropClaimsOf 18 = .ok (.iload 5, 2) := by decide +kernel
theorem dX0_dropClaimsOf_20 : decode cX0_dropClaimsOf 20 = .ok (.iload_n 1, 1) := by decide +kernel
theorem dX0_dropClaimsOf_21 : decode cX0_dropClaimsOf 21 = .ok (.iload_n 2, 1) := by decide +kernel
theorem dX0_dropClaimsOf_22 : decode cX0_dropClaimsOf 22 = .ok (.invokevirtual 107, 3) := by decide +kernel
theorem dX0_dropClaimsOf_25 : decode cX0_dropClaimsOf 25 = .ok (.ifCond .ne 30, 3) := by decide +kernel
theorem dX0_dropClaimsOf_28 : decode cX0_dropClaimsOf 28 = .ok (.aload_n 0, 1) := by decide +kernel
theorem dX0_dropClaimsOf_29 : decode cX0_dropClaimsOf 29 = .ok (.iload 4, 2) := by decide +kernel
theorem dX0_dropClaimsOf_31 : decode cX0_dropClaimsOf 31 = .ok (.aload_n 0, 1) := by decide +kernel
theorem dX0_dropClaimsOf_32 : decode cX0_dropClaimsOf 32 = .ok (.iload 5, 2) := by decide +kernel
theorem dX0_dropClaimsOf_34 : decode cX0_dropClaimsOf 34 = .ok (.invokevirtual 69, 3) := by decide +kernel
theorem dX0_dropClaimsOf_37 : decode cX0_dropClaimsOf 37 = .ok (.aload_n 0, 1) := by decide +kernel
theorem dX0_dropClaimsOf_38 : decode cX0_dropClaimsOf 38 = .ok (.iload 5, 2) := by decide +kernel
theorem dX0_dropClaimsOf_40 : decode cX0_dropClaimsOf 40 = .ok (.invokevirtual 97, 3) := by decide +kernel
theorem dX0_dropClaimsOf_43 : decode cX0_dropClaimsOf 43 = .ok (.aload_n 0, 1) := by decide +kernel
theorem dX0_dropClaimsOf_44 : decode cX0_dropClaimsOf 44 = .ok (.iload 5, 2) := by decide +kernel
theorem dX0_dropClaimsOf_46 : decode cX0_dropClaimsOf 46 = .ok (.invokevirtual 104, 3) := by decide +kernel
theorem dX0_dropClaimsOf_49 : decode cX0_dropClaimsOf 49 = .ok (.invokevirtual 100, 3) := by decide +kernel
theorem dX0_dropClaimsOf_52 : decode cX0_dropClaimsOf 52 = .ok (.iinc 4 1, 3) := by decide +kernel
theorem dX0_dropClaimsOf_55 : decode cX0_dropClaimsOf 55 = .ok (.iinc 5 1, 3) := by decide +kernel
theorem dX0_dropClaimsOf_58 : decode cX0_dropClaimsOf 58 = .ok (.goto (-47), 3) := by decide +kernel
theorem dX0_dropClaimsOf_61 : decode cX0_dropClaimsOf 61 = .ok (.aload_n 0, 1) := by decide +kernel
theorem dX0_dropClaimsOf_62 : decode cX0_dropClaimsOf 62 = .ok (.iload 4, 2) := by decide +kernel
theorem dX0_dropClaimsOf_64 : decode cX0_dropClaimsOf 64 = .ok (.putfield 31, 3) := by decide +kernel
theorem dX0_dropClaimsOf_67 : decode cX0_dropClaimsOf 67 = .ok (.iload_n 3, 1) := by decide +kernel
theorem dX0_dropClaimsOf_68 : decode cX0_dropClaimsOf 68 = .ok (.iload 4, 2) := by decide +kernel
theorem dX0_dropClaimsOf_70 : decode cX0_dropClaimsOf 70 = .ok (.isub, 1) := by decide +kernel
theorem dX0_dropClaimsOf_71 : decode cX0_dropClaimsOf 71 = .ok (.ireturn, 1) := by decide +kernel
theorem dX0_handOver_0 : decode cX0_handOver 0 = .ok (.iconst 0, 1) := by decide +kernel
theorem dX0_handOver_1 : decode cX0_handOver 1 = .ok (.istore 4, 2) := by decide +kernel
theorem dX0_handOver_3 : decode cX0_handOver 3 = .ok (.iload 4, 2) := by decide +kernel
theorem dX0_handOver_5 : decode cX0_handOver 5 = .ok (.aload_n 0, 1) := by decide +kernel
theorem dX0_handOver_6 : decode cX0_handOver 6 = .ok (.getfield 31, 3) := by decide +kernel
theorem dX0_handOver_9 : decode cX0_handOver 9 = .ok (.if_icmp .ge 27, 3) := by decide +kernel
theorem dX0_handOver_12 : decode cX0_handOver 12 = .ok (.aload_n 0, 1) := by decide +kernel
theorem dX0_handOver_13 : decode cX0_handOver 13 = .ok (.iload 4, 2) := by decide +kernel
theorem dX0_handOver_15 : decode cX0_handOver 15 = .ok (.iload_n 1, 1) := by decide +kernel
theorem dX0_handOver_16 : decode cX0_handOver 16 = .ok (.iload_n 2, 1) := by decide +kernel
theorem dX0_handOver_17 : decode cX0_handOver 17 = .ok (.invokevirtual 107, 3) := by decide +kernel
theorem dX0_handOver_20 : decode cX0_handOver 20 = .ok (.ifCond .eq 10, 3) := by decide +kernel
theorem dX0_handOver_23 : decode cX0_handOver 23 = .ok (.aload_n 0, 1) := by decide +kernel
theorem dX0_handOver_24 : decode cX0_handOver 24 = .ok (.iload 4, 2) := by decide +kernel
theorem dX0_handOver_26 : decode cX0_handOver 26 = .ok (.iload_n 3, 1) := by decide +kernel
theorem dX0_handOver_27 : decode cX0_handOver 27 = .ok (.invokevirtual 72, 3) := by decide +kernel
theorem dX0_handOver_30 : decode cX0_handOver 30 = .ok (.iinc 4 1, 3) := by decide +kernel
theorem dX0_handOver_33 : decode cX0_handOver 33 = .ok (.goto (-30), 3) := by decide +kernel
theorem dX0_handOver_36 : decode cX0_handOver 36 = .ok (.return_, 1) := by decide +kernel
theorem dX0_scaleAmounts_0 : decode cX0_scaleAmounts 0 = .ok (.iconst 0, 1) := by decide +kernel
theorem dX0_scaleAmounts_1 : decode cX0_scaleAmounts 1 = .ok (.istore_n 3, 1) := by decide +kernel
theorem dX0_scaleAmounts_2 : decode cX0_scaleAmounts 2 = .ok (.iconst 0, 1) := by decide +kernel
theorem dX0_scaleAmounts_3 : decode cX0_scaleAmounts 3 = .ok (.istore 4, 2) := by decide +kernel
theorem dX0_scaleAmounts_5 : decode cX0_scaleAmounts 5 = .ok (.iload 4, 2) := by decide +kernel
theorem dX0_scaleAmounts_7 : decode cX0_scaleAmounts 7 = .ok (.aload_n 0, 1) := by decide +kernel
theorem dX0_scaleAmounts_8 : decode cX0_scaleAmounts 8 = .ok (.getfield 31, 3) := by decide +kernel
theorem dX0_scaleAmounts_11 : decode cX0_scaleAmounts 11 = .ok (.if_icmp .ge 68, 3) := by decide +kernel
theorem dX0_scaleAmounts_14 : decode cX0_scaleAmounts 14 = .ok (.aload_n 0, 1) := by decide +kernel
theorem dX0_scaleAmounts_15 : decode cX0_scaleAmounts 15 = .ok (.iload 4, 2) := by decide +kernel
theorem dX0_scaleAmounts_17 : decode cX0_scaleAmounts 17 = .ok (.invokevirtual 69, 3) := by decide +kernel
theorem dX0_scaleAmounts_20 : decode cX0_scaleAmounts 20 = .ok (.iload_n 1, 1) := by decide +kernel
theorem dX0_scaleAmounts_21 : decode cX0_scaleAmounts 21 = .ok (.if_icmp .ne 52, 3) := by decide +kernel
theorem dX0_scaleAmounts_24 : decode cX0_scaleAmounts 24 = .ok (.aload_n 0, 1) := by decide +kernel
theorem dX0_scaleAmounts_25 : decode cX0_scaleAmounts 25 = .ok (.iload 4, 2) := by decide +kernel
theorem dX0_scaleAmounts_27 : decode cX0_scaleAmounts 27 = .ok (.invokevirtual 104, 3) := by decide +kernel
theorem dX0_scaleAmounts_30 : decode cX0_scaleAmounts 30 = .ok (.istore 5, 2) := by decide +kernel
theorem dX0_scaleAmounts_32 : decode cX0_scaleAmounts 32 = .ok (.aload_n 0, 1) := by decide +kernel
theorem dX0_scaleAmounts_33 : decode cX0_scaleAmounts 33 = .ok (.iload 4, 2) := by decide +kernel
theorem dX0_scaleAmounts_35 : decode cX0_scaleAmounts 35 = .ok (.iconst 1, 1) := by decide +kernel
theorem dX0_scaleAmounts_36 : decode cX0_scaleAmounts 36 = .ok (.bipush 99, 2) := by decide +kernel
theorem dX0_scaleAmounts_38 : decode cX0_scaleAmounts 38 = .ok (.iload 5, 2) := by decide +kernel
theorem dX0_scaleAmounts_40 : decode cX0_scaleAmounts 40 = .ok (.iload_n 2, 1) := by decide +kernel
theorem dX0_scaleAmounts_41 : decode cX0_scaleAmounts 41 = .ok (.imul, 1) := by decide +kernel
theorem dX0_scaleAmounts_42 : decode cX0_scaleAmounts 42 = .ok (.bipush 100, 2) := by decide +kernel
theorem dX0_scaleAmounts_44 : decode cX0_scaleAmounts 44 = .ok (.idiv, 1) := by decide +kernel
theorem dX0_scaleAmounts_45 : decode cX0_scaleAmounts 45 = .ok (.invokestatic 92, 3) := by decide +kernel
theorem dX0_scaleAmounts_48 : decode cX0_scaleAmounts 48 = .ok (.invokestatic 111, 3) := by decide +kernel
theorem dX0_scaleAmounts_51 : decode cX0_scaleAmounts 51 = .ok (.invokevirtual 114, 3) := by decide +kernel
theorem dX0_scaleAmounts_54 : decode cX0_scaleAmounts 54 = .ok (.iload_n 3, 1) := by decide +kernel
theorem dX0_scaleAmounts_55 : decode cX0_scaleAmounts 55 = .ok (.aload_n 0, 1) := by decide +kernel
theorem dX0_scaleAmounts_56 : decode cX0_scaleAmounts 56 = .ok (.iload 4, 2) := by decide +kernel
theorem dX0_scaleAmounts_58 : decode cX0_scaleAmounts 58 = .ok (.invokevirtual 104, 3) := by decide +kernel
theorem dX0_scaleAmounts_61 : decode cX0_scaleAmounts 61 = .ok (.iload 5, 2) := by decide +kernel
theorem dX0_scaleAmounts_63 : decode cX0_scaleAmounts 63 = .ok (.if_icmp .ne 7, 3) := by decide +kernel
theorem dX0_scaleAmounts_66 : decode cX0_scaleAmounts 66 = .ok (.iconst 0, 1) := by decide +kernel
theorem dX0_scaleAmounts_67 : decode cX0_scaleAmounts 67 = .ok (.goto 4, 3) := by decide +kernel
theorem dX0_scaleAmounts_70 : decode cX0_scaleAmounts 70 = .ok (.iconst 1, 1) := by decide +kernel
theorem dX0_scaleAmounts_71 : decode cX0_scaleAmounts 71 = .ok (.iadd, 1) := by decide +kernel
theorem dX0_scaleAmounts_72 : decode cX0_scaleAmounts 72 = .ok (.istore_n 3, 1) := by decide +kernel
theorem dX0_scaleAmounts_73 : decode cX0_scaleAmounts 73 = .ok (.iinc 4 1, 3) := by decide +kernel
theorem dX0_scaleAmounts_76 : decode cX0_scaleAmounts 76 = .ok (.goto (-71), 3) := by decide +kernel
theorem dX0_scaleAmounts_79 : decode cX0_scaleAmounts 79 = .ok (.iload_n 3, 1) := by decide +kernel
theorem dX0_scaleAmounts_80 : decode cX0_scaleAmounts 80 = .ok (.ireturn, 1) := by decide +kernel
theorem dX0_claimsWith_0 : decode cX0_claimsWith 0 = .ok (.iconst 0, 1) := by decide +kernel
theorem dX0_claimsWith_1 : decode cX0_claimsWith 1 = .ok (.istore_n 2, 1) := by decide +kernel
theorem dX0_claimsWith_2 : decode cX0_claimsWith 2 = .ok (.iconst 0, 1) := by decide +kernel
theorem dX0_claimsWith_3 : decode cX0_claimsWith 3 = .ok (.istore_n 3, 1) := by decide +kernel
theorem dX0_claimsWith_4 : decode cX0_claimsWith 4 = .ok (.iload_n 3, 1) := by decide +kernel
theorem dX0_claimsWith_5 : decode cX0_claimsWith 5 = .ok (.aload_n 0, 1) := by decide +kernel
theorem dX0_claimsWith_6 : decode cX0_claimsWith 6 = .ok (.getfield 31, 3) := by decide +kernel
theorem dX0_claimsWith_9 : decode cX0_claimsWith 9 = .ok (.if_icmp .ge 26, 3) := by decide +kernel
theorem dX0_claimsWith_12 : decode cX0_claimsWith 12 = .ok (.iload_n 2, 1) := by decide +kernel
theorem dX0_claimsWith_13 : decode cX0_claimsWith 13 = .ok (.aload_n 0, 1) := by decide +kernel
theorem dX0_claimsWith_14 : decode cX0_claimsWith 14 = .ok (.iload_n 3, 1) := by decide +kernel
theorem dX0_claimsWith_15 : decode cX0_claimsWith 15 = .ok (.invokevirtual 69, 3) := by decide +kernel
theorem dX0_claimsWith_18 : decode cX0_claimsWith 18 = .ok (.iload_n 1, 1) := by decide +kernel
theorem dX0_claimsWith_19 : decode cX0_claimsWith 19 = .ok (.if_icmp .ne 7, 3) := by decide +kernel
theorem dX0_claimsWith_22 : decode cX0_claimsWith 22 = .ok (.iconst 1, 1) := by decide +kernel
theorem dX0_claimsWith_23 : decode cX0_claimsWith 23 = .ok (.goto 4, 3) := by decide +kernel
theorem dX0_claimsWith_26 : decode cX0_claimsWith 26 = .ok (.iconst 0, 1) := by decide +kernel
theorem dX0_claimsWith_27 : decode cX0_claimsWith 27 = .ok (.iadd, 1) := by decide +kernel
theorem dX0_claimsWith_28 : decode cX0_claimsWith 28 = .ok (.istore_n 2, 1) := by decide +kernel
theorem dX0_claimsWith_29 : decode cX0_claimsWith 29 = .ok (.iinc 3 1, 3) := by decide +kernel
theorem dX0_claimsWith_32 : decode cX0_claimsWith 32 = .ok (.goto (-28), 3) := by decide +kernel
theorem dX0_claimsWith_35 : decode cX0_claimsWith 35 = .ok (.iload_n 2, 1) := by decide +kernel
theorem dX0_claimsWith_36 : decode cX0_claimsWith 36 = .ok (.ireturn, 1) := by decide +kernel
theorem dX0_claimsOfYear_0 : decode cX0_claimsOfYear 0 = .ok (.iconst 0, 1) := by decide +kernel
theorem dX0_claimsOfYear_1 : decode cX0_claimsOfYear 1 = .ok (.istore_n 2, 1) := by decide +kernel
theorem dX0_claimsOfYear_2 : decode cX0_claimsOfYear 2 = .ok (.iconst 0, 1) := by decide +kernel
theorem dX0_claimsOfYear_3 : decode cX0_claimsOfYear 3 = .ok (.istore_n 3, 1) := by decide +kernel
theorem dX0_claimsOfYear_4 : decode cX0_claimsOfYear 4 = .ok (.iload_n 3, 1) := by decide +kernel
theorem dX0_claimsOfYear_5 : decode cX0_claimsOfYear 5 = .ok (.aload_n 0, 1) := by decide +kernel
theorem dX0_claimsOfYear_6 : decode cX0_claimsOfYear 6 = .ok (.getfield 31, 3) := by decide +kernel
theorem dX0_claimsOfYear_9 : decode cX0_claimsOfYear 9 = .ok (.if_icmp .ge 26, 3) := by decide +kernel
theorem dX0_claimsOfYear_12 : decode cX0_claimsOfYear 12 = .ok (.iload_n 2, 1) := by decide +kernel
theorem dX0_claimsOfYear_13 : decode cX0_claimsOfYear 13 = .ok (.aload_n 0, 1) := by decide +kernel
theorem dX0_claimsOfYear_14 : decode cX0_claimsOfYear 14 = .ok (.iload_n 3, 1) := by decide +kernel
theorem dX0_claimsOfYear_15 : decode cX0_claimsOfYear 15 = .ok (.invokevirtual 97, 3) := by decide +kernel
theorem dX0_claimsOfYear_18 : decode cX0_claimsOfYear 18 = .ok (.iload_n 1, 1) := by decide +kernel
theorem dX0_claimsOfYear_19 : decode cX0_claimsOfYear 19 = .ok (.if_icmp .ne 7, 3) := by decide +kernel
theorem dX0_claimsOfYear_22 : decode cX0_claimsOfYear 22 = .ok (.iconst 1, 1) := by decide +kernel
theorem dX0_claimsOfYear_23 : decode cX0_claimsOfYear 23 = .ok (.goto 4, 3) := by decide +kernel
theorem dX0_claimsOfYear_26 : decode cX0_claimsOfYear 26 = .ok (.iconst 0, 1) := by decide +kernel
theorem dX0_claimsOfYear_27 : decode cX0_claimsOfYear 27 = .ok (.iadd, 1) := by decide +kernel
theorem dX0_claimsOfYear_28 : decode cX0_claimsOfYear 28 = .ok (.istore_n 2, 1) := by decide +kernel
theorem dX0_claimsOfYear_29 : decode cX0_claimsOfYear 29 = .ok (.iinc 3 1, 3) := by decide +kernel
theorem dX0_claimsOfYear_32 : decode cX0_claimsOfYear 32 = .ok (.goto (-28), 3) := by decide +kernel
theorem dX0_claimsOfYear_35 : decode cX0_claimsOfYear 35 = .ok (.iload_n 2, 1) := by decide +kernel
theorem dX0_claimsOfYear_36 : decode cX0_claimsOfYear 36 = .ok (.ireturn, 1) := by decide +kernel
theorem dX0_claimsAboveCap_0 : decode cX0_claimsAboveCap 0 = .ok (.iconst 0, 1) := by decide +kernel
theorem dX0_claimsAboveCap_1 : decode cX0_claimsAboveCap 1 = .ok (.istore_n 2, 1) := by decide +kernel
theorem dX0_claimsAboveCap_2 : decode cX0_claimsAboveCap 2 = .ok (.iconst 0, 1) := by decide +kernel
theorem dX0_claimsAboveCap_3 : decode cX0_claimsAboveCap 3 = .ok (.istore_n 3, 1) := by decide +kernel
theorem dX0_claimsAboveCap_4 : decode cX0_claimsAboveCap 4 = .ok (.iload_n 3, 1) := by decide +kernel
theorem dX0_claimsAboveCap_5 : decode cX0_claimsAboveCap 5 = .ok (.aload_n 0, 1) := by decide +kernel
theorem dX0_claimsAboveCap_6 : decode cX0_claimsAboveCap 6 = .ok (.getfield 31, 3) := by decide +kernel
theorem dX0_claimsAboveCap_9 : decode cX0_claimsAboveCap 9 = .ok (.if_icmp .ge 38, 3) := by decide +kernel
theorem dX0_claimsAboveCap_12 : decode cX0_claimsAboveCap 12 = .ok (.iload_n 2, 1) := by decide +kernel
theorem dX0_claimsAboveCap_13 : decode cX0_claimsAboveCap 13 = .ok (.aload_n 0, 1) := by decide +kernel
theorem dX0_claimsAboveCap_14 : decode cX0_claimsAboveCap 14 = .ok (.iload_n 3, 1) := by decide +kernel
theorem dX0_claimsAboveCap_15 : decode cX0_claimsAboveCap 15 = .ok (.invokevirtual 69, 3) := by decide +kernel
theorem dX0_claimsAboveCap_18 : decode cX0_claimsAboveCap 18 = .ok (.iload_n 1, 1) := by decide +kernel
theorem dX0_claimsAboveCap_19 : decode cX0_claimsAboveCap 19 = .ok (.if_icmp .ne 19, 3) := by decide +kernel
theorem dX0_claimsAboveCap_22 : decode cX0_claimsAboveCap 22 = .ok (.aload_n 0, 1) := by decide +kernel
theorem dX0_claimsAboveCap_23 : decode cX0_claimsAboveCap 23 = .ok (.iload_n 3, 1) := by decide +kernel
theorem dX0_claimsAboveCap_24 : decode cX0_claimsAboveCap 24 = .ok (.invokevirtual 104, 3) := by decide +kernel
theorem dX0_claimsAboveCap_27 : decode cX0_claimsAboveCap 27 = .ok (.aload_n 0, 1) := by decide +kernel
theorem dX0_claimsAboveCap_28 : decode cX0_claimsAboveCap 28 = .ok (.getfield 9, 3) := by decide +kernel
theorem dX0_claimsAboveCap_31 : decode cX0_claimsAboveCap 31 = .ok (.if_icmp .le 7, 3) := by decide +kernel
theorem dX0_claimsAboveCap_34 : decode cX0_claimsAboveCap 34 = .ok (.iconst 1, 1) := by decide +kernel
theorem dX0_claimsAboveCap_35 : decode cX0_claimsAboveCap 35 = .ok (.goto 4, 3) := by decide +kernel
theorem dX0_claimsAboveCap_38 : decode cX0_claimsAboveCap 38 = .ok (.iconst 0, 1) := by decide +kernel
theorem dX0_claimsAboveCap_39 : decode cX0_claimsAboveCap 39 = .ok (.iadd, 1) := by decide +kernel
theorem dX0_claimsAboveCap_40 : decode cX0_claimsAboveCap 40 = .ok (.istore_n 2, 1) := by decide +kernel
theorem dX0_claimsAboveCap_41 : decode cX0_claimsAboveCap 41 = .ok (.iinc 3 1, 3) := by decide +kernel
theorem dX0_claimsAboveCap_44 : decode cX0_claimsAboveCap 44 = .ok (.goto (-40), 3) := by decide +kernel
theorem dX0_claimsAboveCap_47 : decode cX0_claimsAboveCap 47 = .ok (.iload_n 2, 1) := by decide +kernel
theorem dX0_claimsAboveCap_48 : decode cX0_claimsAboveCap 48 = .ok (.ireturn, 1) := by decide +kernel
theorem dX0_allClaimsAboveCap_0 : decode cX0_allClaimsAboveCap 0 = .ok (.iconst 0, 1) := by decide +kernel
theorem dX0_allClaimsAboveCap_1 : decode cX0_allClaimsAboveCap 1 = .ok (.istore_n 1, 1) := by decide +kernel
theorem dX0_allClaimsAboveCap_2 : decode cX0_allClaimsAboveCap 2 = .ok (.iconst 0, 1) := by decide +kernel
theorem dX0_allClaimsAboveCap_3 : decode cX0_allClaimsAboveCap 3 = .ok (.istore_n 2, 1) := by decide +kernel
theorem dX0_allClaimsAboveCap_4 : decode cX0_allClaimsAboveCap 4 = .ok (.iload_n 2, 1) := by decide +kernel
theorem dX0_allClaimsAboveCap_5 : decode cX0_allClaimsAboveCap 5 = .ok (.aload_n 0, 1) := by decide +kernel
theorem dX0_allClaimsAboveCap_6 : decode cX0_allClaimsAboveCap 6 = .ok (.getfield 28, 3) := by decide +kernel
theorem dX0_allClaimsAboveCap_9 : decode cX0_allClaimsAboveCap 9 = .ok (.if_icmp .ge 17, 3) := by decide +kernel
theorem dX0_allClaimsAboveCap_12 : decode cX0_allClaimsAboveCap 12 = .ok (.iload_n 1, 1) := by decide +kernel
theorem dX0_allClaimsAboveCap_13 : decode cX0_allClaimsAboveCap 13 = .ok (.aload_n 0, 1) := by decide +kernel
theorem dX0_allClaimsAboveCap_14 : decode cX0_allClaimsAboveCap 14 = .ok (.iload_n 2, 1) := by decide +kernel
theorem dX0_allClaimsAboveCap_15 : decode cX0_allClaimsAboveCap 15 = .ok (.invokevirtual 117, 3) := by decide +kernel
theorem dX0_allClaimsAboveCap_18 : decode cX0_allClaimsAboveCap 18 = .ok (.iadd, 1) := by decide +kernel
theorem dX0_allClaimsAboveCap_19 : decode cX0_allClaimsAboveCap 19 = .ok (.istore_n 1, 1) := by decide +kernel
theorem dX0_allClaimsAboveCap_20 : decode cX0_allClaimsAboveCap 20 = .ok (.iinc 2 1, 3) := by decide +kernel
theorem dX0_allClaimsAboveCap_23 : decode cX0_allClaimsAboveCap 23 = .ok (.goto (-19), 3) := by decide +kernel
theorem dX0_allClaimsAboveCap_26 : decode cX0_allClaimsAboveCap 26 = .ok (.iload_n 1, 1) := by decide +kernel
theorem dX0_allClaimsAboveCap_27 : decode cX0_allClaimsAboveCap 27 = .ok (.ireturn, 1) := by decide +kernel
theorem dX0_placeOf_0 : decode cX0_placeOf 0 = .ok (.iconst 0, 1) := by decide +kernel
theorem dX0_placeOf_1 : decode cX0_placeOf 1 = .ok (.istore_n 2, 1) := by decide +kernel
theorem dX0_placeOf_2 : decode cX0_placeOf 2 = .ok (.iconst 0, 1) := by decide +kernel
theorem dX0_placeOf_3 : decode cX0_placeOf 3 = .ok (.istore_n 3, 1) := by decide +kernel
theorem dX0_placeOf_4 : decode cX0_placeOf 4 = .ok (.iload_n 3, 1) := by decide +kernel
theorem dX0_placeOf_5 : decode cX0_placeOf 5 = .ok (.aload_n 0, 1) := by decide +kernel
theorem dX0_placeOf_6 : decode cX0_placeOf 6 = .ok (.getfield 31, 3) := by decide +kernel
theorem dX0_placeOf_9 : decode cX0_placeOf 9 = .ok (.if_icmp .ge 56, 3) := by decide +kernel
theorem dX0_placeOf_12 : decode cX0_placeOf 12 = .ok (.aload_n 0, 1) := by decide +kernel
theorem dX0_placeOf_13 : decode cX0_placeOf 13 = .ok (.iload_n 3, 1) := by decide +kernel
theorem dX0_placeOf_14 : decode cX0_placeOf 14 = .ok (.invokevirtual 69, 3) := by decide +kernel
theorem dX0_placeOf_17 : decode cX0_placeOf 17 = .ok (.aload_n 0, 1) := by decide +kernel
theorem dX0_placeOf_18 : decode cX0_placeOf 18 = .ok (.iload_n 1, 1) := by decide +kernel
theorem dX0_placeOf_19 : decode cX0_placeOf 19 = .ok (.invokevirtual 69, 3) := by decide +kernel
theorem dX0_placeOf_22 : decode cX0_placeOf 22 = .ok (.if_icmp .ne 37, 3) := by decide +kernel
theorem dX0_placeOf_25 : decode cX0_placeOf 25 = .ok (.aload_n 0, 1) := by decide +kernel
theorem dX0_placeOf_26 : decode cX0_placeOf 26 = .ok (.iload_n 3, 1) := by decide +kernel
theorem dX0_placeOf_27 : decode cX0_placeOf 27 = .ok (.invokevirtual 104, 3) := by decide +kernel
theorem dX0_placeOf_30 : decode cX0_placeOf 30 = .ok (.aload_n 0, 1) := by decide +kernel
theorem dX0_placeOf_31 : decode cX0_placeOf 31 = .ok (.iload_n 1, 1) := by decide +kernel
theorem dX0_placeOf_32 : decode cX0_placeOf 32 = .ok (.invokevirtual 104, 3) := by decide +kernel
theorem dX0_placeOf_35 : decode cX0_placeOf 35 = .ok (.if_icmp .gt 21, 3) := by decide +kernel
theorem dX0_placeOf_38 : decode cX0_placeOf 38 = .ok (.aload_n 0, 1) := by decide +kernel
theorem dX0_placeOf_39 : decode cX0_placeOf 39 = .ok (.iload_n 3, 1) := by decide +kernel
theorem dX0_placeOf_40 : decode cX0_placeOf 40 = .ok (.invokevirtual 104, 3) := by decide +kernel
theorem dX0_placeOf_43 : decode cX0_placeOf 43 = .ok (.aload_n 0, 1) := by decide +kernel
theorem dX0_placeOf_44 : decode cX0_placeOf 44 = .ok (.iload_n 1, 1) := by decide +kernel
theorem dX0_placeOf_45 : decode cX0_placeOf 45 = .ok (.invokevirtual 104, 3) := by decide +kernel
theorem dX0_placeOf_48 : decode cX0_placeOf 48 = .ok (.if_icmp .ne 11, 3) := by decide +kernel
theorem dX0_placeOf_51 : decode cX0_placeOf 51 = .ok (.iload_n 3, 1) := by decide +kernel
theorem dX0_placeOf_52 : decode cX0_placeOf 52 = .ok (.iload_n 1, 1) := by decide +kernel
theorem dX0_placeOf_53 : decode cX0_placeOf 53 = .ok (.if_icmp .ge 6, 3) := by decide +kernel
theorem dX0_placeOf_56 : decode cX0_placeOf 56 = .ok (.iinc 2 1, 3) := by decide +kernel
theorem dX0_placeOf_59 : decode cX0_placeOf 59 = .ok (.iinc 3 1, 3) := by decide +kernel
theorem dX0_placeOf_62 : decode cX0_placeOf 62 = .ok (.goto (-58), 3) := by decide +kernel
theorem dX0_placeOf_65 : decode cX0_placeOf 65 = .ok (.iload_n 2, 1) := by decide +kernel
theorem dX0_placeOf_66 : decode cX0_placeOf 66 = .ok (.ireturn, 1) := by decide +kernel
theorem dX1_init_0 : decode cX1_init 0 = .ok (.aload_n 0, 1) := by decide +kernel
theorem dX1_init_1 : decode cX1_init 1 = .ok (.invokespecial 3, 3) := by decide +kernel
theorem dX1_init_4 : decode cX1_init 4 = .ok (.aload_n 0, 1) := by decide +kernel
theorem dX1_init_5 : decode cX1_init 5 = .ok (.bipush 8, 2) := by decide +kernel
theorem dX1_init_7 : decode cX1_init 7 = .ok (.newarray .int, 2) := by decide +kernel
theorem dX1_init_9 : decode cX1_init 9 = .ok (.putfield 9, 3) := by decide +kernel
theorem dX1_init_12 : decode cX1_init 12 = .ok (.aload_n 0, 1) := by decide +kernel
theorem dX1_init_13 : decode cX1_init 13 = .ok (.bipush 40, 2) := by decide +kernel
theorem dX1_init_15 : decode cX1_init 15 = .ok (.newarray .int, 2) := by decide +kernel
theorem dX1_init_17 : decode cX1_init 17 = .ok (.putfield 15, 3) := by decide +kernel
theorem dX1_init_20 : decode cX1_init 20 = .ok (.aload_n 0, 1) := by decide +kernel
theorem dX1_init_21 : decode cX1_init 21 = .ok (.bipush 8, 2) := by decide +kernel
theorem dX1_init_23 : decode cX1_init 23 = .ok (.newarray .int, 2) := by decide +kernel
theorem dX1_init_25 : decode cX1_init 25 = .ok (.putfield 18, 3) := by decide +kernel
theorem dX1_init_28 : decode cX1_init 28 = .ok (.aload_n 0, 1) := by decide +kernel
theorem dX1_init_29 : decode cX1_init 29 = .ok (.bipush 8, 2) := by decide +kernel
theorem dX1_init_31 : decode cX1_init 31 = .ok (.newarray .int, 2) := by decide +kernel
theorem dX1_init_33 : decode cX1_init 33 = .ok (.putfield 21, 3) := by decide +kernel
theorem dX1_init_36 : decode cX1_init 36 = .ok (.aload_n 0, 1) := by decide +kernel
theorem dX1_init_37 : decode cX1_init 37 = .ok (.bipush 8, 2) := by decide +kernel
theorem dX1_init_39 : decode cX1_init 39 = .ok (.newarray .int, 2) := by decide +kernel
theorem dX1_init_41 : decode cX1_init 41 = .ok (.putfield 24, 3) := by decide +kernel
theorem dX1_init_44 : decode cX1_init 44 = .ok (.aload_n 0, 1) := by decide +kernel
theorem dX1_init_45 : decode cX1_init 45 = .ok (.bipush 8, 2) := by decide +kernel
theorem dX1_init_47 : decode cX1_init 47 = .ok (.newarray .int, 2) := by decide +kernel
theorem dX1_init_49 : decode cX1_init 49 = .ok (.putfield 27, 3) := by decide +kernel
theorem dX1_init_52 : decode cX1_init 52 = .ok (.aload_n 0, 1) := by decide +kernel
theorem dX1_init_53 : decode cX1_init 53 = .ok (.new 30, 3) := by decide +kernel
theorem dX1_init_56 : decode cX1_init 56 = .ok (.dup, 1) := by decide +kernel
theorem dX1_init_57 : decode cX1_init 57 = .ok (.invokespecial 32, 3) := by decide +kernel
theorem dX1_init_60 : decode cX1_init 60 = .ok (.putfield 33, 3) := by decide +kernel
theorem dX1_init_63 : decode cX1_init 63 = .ok (.aload_n 0, 1) := by decide +kernel
theorem dX1_init_64 : decode cX1_init 64 = .ok (.new 30, 3) := by decide +kernel
theorem dX1_init_67 : decode cX1_init 67 = .ok (.dup, 1) := by decide +kernel
theorem dX1_init_68 : decode cX1_init 68 = .ok (.invokespecial 32, 3) := by decide +kernel
theorem dX1_init_71 : decode cX1_init 71 = .ok (.putfield 37, 3) := by decide +kernel
theorem dX1_init_74 : decode cX1_init 74 = .ok (.aload_n 0, 1) := by decide +kernel
theorem dX1_init_75 : decode cX1_init 75 = .ok (.new 30, 3) := by decide +kernel
theorem dX1_init_78 : decode cX1_init 78 = .ok (.dup, 1) := by decide +kernel
theorem dX1_init_79 : decode cX1_init 79 = .ok (.invokespecial 32, 3) := by decide +kernel
theorem dX1_init_82 : decode cX1_init 82 = .ok (.putfield 40, 3) := by decide +kernel
theorem dX1_init_85 : decode cX1_init 85 = .ok (.aload_n 0, 1) := by decide +kernel
theorem dX1_init_86 : decode cX1_init 86 = .ok (.new 43, 3) := by decide +kernel
theorem dX1_init_89 : decode cX1_init 89 = .ok (.dup, 1) := by decide +kernel
theorem dX1_init_90 : decode cX1_init 90 = .ok (.invokespecial 45, 3) := by decide +kernel
theorem dX1_init_93 : decode cX1_init 93 = .ok (.putfield 46, 3) := by decide +kernel
theorem dX1_init_96 : decode cX1_init 96 = .ok (.aload_n 0, 1) := by decide +kernel
theorem dX1_init_97 : decode cX1_init 97 = .ok (.new 43, 3) := by decide +kernel
theorem dX1_init_100 : decode cX1_init 100 = .ok (.dup, 1) := by decide +kernel
theorem dX1_init_101 : decode cX1_init 101 = .ok (.invokespecial 45, 3) := by decide +kernel
theorem dX1_init_104 : decode cX1_init 104 = .ok (.putfield 50, 3) := by decide +kernel
theorem dX1_init_107 : decode cX1_init 107 = .ok (.return_, 1) := by decide +kernel
theorem dX1_reckon_0 : decode cX1_reckon 0 = .ok (.aload_n 0, 1) := by decide +kernel
theorem dX1_reckon_1 : decode cX1_reckon 1 = .ok (.aload_n 1, 1) := by decide +kernel
theorem dX1_reckon_2 : decode cX1_reckon 2 = .ok (.getfield 53, 3) := by decide +kernel
theorem dX1_reckon_5 : decode cX1_reckon 5 = .ok (.bipush 8, 2) := by decide +kernel
theorem dX1_reckon_7 : decode cX1_reckon 7 = .ok (.invokestatic 59, 3) := by decide +kernel
theorem dX1_reckon_10 : decode cX1_reckon 10 = .ok (.putfield 65, 3) := by decide +kernel
theorem dX1_reckon_13 : decode cX1_reckon 13 = .ok (.aload_n 0, 1) := by decide +kernel
theorem dX1_reckon_14 : decode cX1_reckon 14 = .ok (.aload_n 1, 1) := by decide +kernel
theorem dX1_reckon_15 : decode cX1_reckon 15 = .ok (.invokevirtual 66, 3) := by decide +kernel
theorem dX1_reckon_18 : decode cX1_reckon 18 = .ok (.aload_n 0, 1) := by decide +kernel
theorem dX1_reckon_19 : decode cX1_reckon 19 = .ok (.getfield 33, 3) := by decide +kernel
theorem dX1_reckon_22 : decode cX1_reckon 22 = .ok (.invokevirtual 70, 3) := by decide +kernel
theorem dX1_reckon_25 : decode cX1_reckon 25 = .ok (.aload_n 0, 1) := by decide +kernel
theorem dX1_reckon_26 : decode cX1_reckon 26 = .ok (.getfield 37, 3) := by decide +kernel
theorem dX1_reckon_29 : decode cX1_reckon 29 = .ok (.invokevirtual 70, 3) := by decide +kernel
theorem dX1_reckon_32 : decode cX1_reckon 32 = .ok (.aload_n 0, 1) := by decide +kernel
theorem dX1_reckon_33 : decode cX1_reckon 33 = .ok (.getfield 40, 3) := by decide +kernel
theorem dX1_reckon_36 : decode cX1_reckon 36 = .ok (.invokevirtual 70, 3) := by decide +kernel
theorem dX1_reckon_39 : decode cX1_reckon 39 = .ok (.aload_n 0, 1) := by decide +kernel
theorem dX1_reckon_40 : decode cX1_reckon 40 = .ok (.iconst 0, 1) := by decide +kernel
theorem dX1_reckon_41 : decode cX1_reckon 41 = .ok (.putfield 73, 3) := by decide +kernel
theorem dX1_reckon_44 : decode cX1_reckon 44 = .ok (.aload_n 0, 1) := by decide +kernel
theorem dX1_reckon_45 : decode cX1_reckon 45 = .ok (.iconst 0, 1) := by decide +kernel
theorem dX1_reckon_46 : decode cX1_reckon 46 = .ok (.putfield 76, 3) := by decide +kernel
theorem dX1_reckon_49 : decode cX1_reckon 49 = .ok (.iconst 0, 1) := by decide +kernel
theorem dX1_reckon_50 : decode cX1_reckon 50 = .ok (.istore_n 2, 1) := by decide +kernel
theorem dX1_reckon_51 : decode cX1_reckon 51 = .ok (.iload_n 2, 1) := by decide +kernel
theorem dX1_reckon_52 : decode cX1_reckon 52 = .ok (.aload_n 0, 1) := by decide +kernel
theorem dX1_reckon_53 : decode cX1_reckon 53 = .ok (.getfield 65, 3) := by decide +kernel
theorem dX1_reckon_56 : decode cX1_reckon 56 = .ok (.if_icmp .ge 15, 3) := by decide +kernel
theorem dX1_reckon_59 : decode cX1_reckon 59 = .ok (.aload_n 0, 1) := by decide +kernel
theorem dX1_reckon_60 : decode cX1_reckon 60 = .ok (.aload_n 1, 1) := by decide +kernel
theorem dX1_reckon_61 : decode cX1_reckon 61 = .ok (.iload_n 2, 1) := by decide +kernel
theorem dX1_reckon_62 : decode cX1_reckon 62 = .ok (.invokevirtual 79, 3) := by decide +kernel
theorem dX1_reckon_65 : decode cX1_reckon 65 = .ok (.iinc 2 1, 3) := by decide +kernel
theorem dX1_reckon_68 : decode cX1_reckon 68 = .ok (.goto (-17), 3) := by decide +kernel
theorem dX1_reckon_71 : decode cX1_reckon 71 = .ok (.aload_n 0, 1) := by decide +kernel
theorem dX1_reckon_72 : decode cX1_reckon 72 = .ok (.getfield 33, 3) := by decide +kernel
theorem dX1_reckon_75 : decode cX1_reckon 75 = .ok (.invokevirtual 83, 3) := by decide +kernel
theorem dX1_reckon_78 : decode cX1_reckon 78 = .ok (.aload_n 0, 1) := by decide +kernel
theorem dX1_reckon_79 : decode cX1_reckon 79 = .ok (.getfield 37, 3) := by decide +kernel
theorem dX1_reckon_82 : decode cX1_reckon 82 = .ok (.invokevirtual 83, 3) := by decide +kernel
theorem dX1_reckon_85 : decode cX1_reckon 85 = .ok (.aload_n 0, 1) := by decide +kernel
theorem dX1_reckon_86 : decode cX1_reckon 86 = .ok (.getfield 40, 3) := by decide +kernel
theorem dX1_reckon_89 : decode cX1_reckon 89 = .ok (.invokevirtual 83, 3) := by decide +kernel
theorem dX1_reckon_92 : decode cX1_reckon 92 = .ok (.iconst 0, 1) := by decide +kernel
theorem dX1_reckon_93 : decode cX1_reckon 93 = .ok (.istore_n 2, 1) := by decide +kernel
theorem dX1_reckon_94 : decode cX1_reckon 94 = .ok (.iload_n 2, 1) := by decide +kernel
theorem dX1_reckon_95 : decode cX1_reckon 95 = .ok (.aload_n 0, 1) := by decide +kernel
theorem dX1_reckon_96 : decode cX1_reckon 96 = .ok (.getfield 65, 3) := by decide +kernel
theorem dX1_reckon_99 : decode cX1_reckon 99 = .ok (.if_icmp .ge 14, 3) := by decide +kernel
theorem dX1_reckon_102 : decode cX1_reckon 102 = .ok (.aload_n 0, 1) := by decide +kernel
theorem dX1_reckon_103 : decode cX1_reckon 103 = .ok (.iload_n 2, 1) := by decide +kernel
theorem dX1_reckon_104 : decode cX1_reckon 104 = .ok (.invokevirtual 86, 3) := by decide +kernel
theorem dX1_reckon_107 : decode cX1_reckon 107 = .ok (.iinc 2 1, 3) := by decide +kernel
theorem dX1_reckon_110 : decode cX1_reckon 110 = .ok (.goto (-16), 3) := by decide +kernel
theorem dX1_reckon_113 : decode cX1_reckon 113 = .ok (.aload_n 0, 1) := by decide +kernel
theorem dX1_reckon_114 : decode cX1_reckon 114 = .ok (.aload_n 0, 1) := by decide +kernel
theorem dX1_reckon_115 : decode cX1_reckon 115 = .ok (.getfield 46, 3) := by decide +kernel
theorem dX1_reckon_118 : decode cX1_reckon 118 = .ok (.invokevirtual 90, 3) := by decide +kernel
theorem dX1_reckon_121 : decode cX1_reckon 121 = .ok (.aload_n 0, 1) := by decide +kernel
theorem dX1_reckon_122 : decode cX1_reckon 122 = .ok (.getfield 33, 3) := by decide +kernel
theorem dX1_reckon_125 : decode cX1_reckon 125 = .ok (.aload_n 1, 1) := by decide +kernel
theorem dX1_reckon_126 : decode cX1_reckon 126 = .ok (.getfield 94, 3) := by decide +kernel
theorem dX1_reckon_129 : decode cX1_reckon 129 = .ok (.aload_n 0, 1) := by decide +kernel
theorem dX1_reckon_130 : decode cX1_reckon 130 = .ok (.getfield 46, 3) := by decide +kernel
theorem dX1_reckon_133 : decode cX1_reckon 133 = .ok (.invokevirtual 97, 3) := by decide +kernel
theorem dX1_reckon_136 : decode cX1_reckon 136 = .ok (.aload_n 0, 1) := by decide +kernel
theorem dX1_reckon_137 : decode cX1_reckon 137 = .ok (.getfield 37, 3) := by decide +kernel
theorem dX1_reckon_140 : decode cX1_reckon 140 = .ok (.aload_n 1, 1) := by decide +kernel
theorem dX1_reckon_141 : decode cX1_reckon 141 = .ok (.getfield 94, 3) := by decide +kernel
theorem dX1_reckon_144 : decode cX1_reckon 144 = .ok (.aload_n 0, 1) := by decide +kernel
theorem dX1_reckon_145 : decode cX1_reckon 145 = .ok (.getfield 46, 3) := by decide +kernel
theorem dX1_reckon_148 : decode cX1_reckon 148 = .ok (.invokevirtual 97, 3) := by decide +kernel
theorem dX1_reckon_151 : decode cX1_reckon 151 = .ok (.aload_n 0, 1) := by decide +kernel
theorem dX1_reckon_152 : decode cX1_reckon 152 = .ok (.getfield 40, 3) := by decide +kernel
theorem dX1_reckon_155 : decode cX1_reckon 155 = .ok (.aload_n 1, 1) := by decide +kernel
theorem dX1_reckon_156 : decode cX1_reckon 156 = .ok (.getfield 94, 3) := by decide +kernel
theorem dX1_reckon_159 : decode cX1_reckon 159 = .ok (.aload_n 0, 1) := by decide +kernel
theorem dX1_reckon_160 : decode cX1_reckon 160 = .ok (.getfield 46, 3) := by decide +kernel
theorem dX1_reckon_163 : decode cX1_reckon 163 = .ok (.invokevirtual 97, 3) := by decide +kernel
theorem dX1_reckon_166 : decode cX1_reckon 166 = .ok (.return_, 1) := by decide +kernel
theorem dX1_sumLosses_0 : decode cX1_sumLosses 0 = .ok (.aload_n 0, 1) := by decide +kernel
theorem dX1_sumLosses_1 : decode cX1_sumLosses 1 = .ok (.getfield 15, 3) := by decide +kernel
theorem dX1_sumLosses_4 : decode cX1_sumLosses 4 = .ok (.iconst 0, 1) := by decide +kernel
theorem dX1_sumLosses_5 : decode cX1_sumLosses 5 = .ok (.invokestatic 101, 3) := by decide +kernel
theorem dX1_sumLosses_8 : decode cX1_sumLosses 8 = .ok (.iconst 0, 1) := by decide +kernel
theorem dX1_sumLosses_9 : decode cX1_sumLosses 9 = .ok (.istore_n 2, 1) := by decide +kernel
theorem dX1_sumLosses_10 : decode cX1_sumLosses 10 = .ok (.iload_n 2, 1) := by decide +kernel
theorem dX1_sumLosses_11 : decode cX1_sumLosses 11 = .ok (.aload_n 1, 1) := by decide +kernel
theorem dX1_sumLosses_12 : decode cX1_sumLosses 12 = .ok (.getfield 107, 3) := by decide +kernel
theorem dX1_sumLosses_15 : decode cX1_sumLosses 15 = .ok (.if_icmp .ge 50, 3) := by decide +kernel
theorem dX1_sumLosses_18 : decode cX1_sumLosses 18 = .ok (.aload_n 1, 1) := by decide +kernel
theorem dX1_sumLosses_19 : decode cX1_sumLosses 19 = .ok (.iload_n 2, 1) := by decide +kernel
theorem dX1_sumLosses_20 : decode cX1_sumLosses 20 = .ok (.invokevirtual 110, 3) := by decide +kernel
theorem dX1_sumLosses_23 : decode cX1_sumLosses 23 = .ok (.iconst 5, 1) := by decide +kernel
theorem dX1_sumLosses_24 : decode cX1_sumLosses 24 = .ok (.imul, 1) := by decide +kernel
theorem dX1_sumLosses_25 : decode cX1_sumLosses 25 = .ok (.aload_n 1, 1) := by decide +kernel
theorem dX1_sumLosses_26 : decode cX1_sumLosses 26 = .ok (.iload_n 2, 1) := by decide +kernel
theorem dX1_sumLosses_27 : decode cX1_sumLosses 27 = .ok (.invokevirtual 114, 3) := by decide +kernel
theorem dX1_sumLosses_30 : decode cX1_sumLosses 30 = .ok (.iadd, 1) := by decide +kernel
theorem dX1_sumLosses_31 : decode cX1_sumLosses 31 = .ok (.istore_n 3, 1) := by decide +kernel
theorem dX1_sumLosses_32 : decode cX1_sumLosses 32 = .ok (.iload_n 3, 1) := by decide +kernel
theorem dX1_sumLosses_33 : decode cX1_sumLosses 33 = .ok (.ifCond .lt 26, 3) := by decide +kernel
theorem dX1_sumLosses_36 : decode cX1_sumLosses 36 = .ok (.iload_n 3, 1) := by decide +kernel
theorem dX1_sumLosses_37 : decode cX1_sumLosses 37 = .ok (.aload_n 0, 1) := by decide +kernel
theorem dX1_sumLosses_38 : decode cX1_sumLosses 38 = .ok (.getfield 15, 3) := by decide +kernel
theorem dX1_sumLosses_41 : decode cX1_sumLosses 41 = .ok (.arraylength, 1) := by decide +kernel
theorem dX1_sumLosses_42 : decode cX1_sumLosses 42 = .ok (.if_icmp .ge 17, 3) := by decide +kernel
theorem dX1_sumLosses_45 : decode cX1_sumLosses 45 = .ok (.aload_n 0, 1) := by decide +kernel
theorem dX1_sumLosses_46 : decode cX1_sumLosses 46 = .ok (.getfield 15, 3) := by decide +kernel
theorem dX1_sumLosses_49 : decode cX1_sumLosses 49 = .ok (.iload_n 3, 1) := by decide +kernel
theorem dX1_sumLosses_50 : decode cX1_sumLosses 50 = .ok (.dup2, 1) := by decide +kernel
theorem dX1_sumLosses_51 : decode cX1_sumLosses 51 = .ok (.iaload, 1) := by decide +kernel
theorem dX1_sumLosses_52 : decode cX1_sumLosses 52 = .ok (.aload_n 1, 1) := by decide +kernel
theorem dX1_sumLosses_53 : decode cX1_sumLosses 53 = .ok (.iload_n 2, 1) := by decide +kernel
theorem dX1_sumLosses_54 : decode cX1_sumLosses 54 = .ok (.invokevirtual 117, 3) := by decide +kernel
theorem dX1_sumLosses_57 : decode cX1_sumLosses 57 = .ok (.iadd, 1) := by decide +kernel
theorem dX1_sumLosses_58 : decode cX1_sumLosses 58 = .ok (.iastore, 1) := by decide +kernel
theorem dX1_sumLosses_59 : decode cX1_sumLosses 59 = .ok (.iinc 2 1, 3) := by decide +kernel
theorem dX1_sumLosses_62 : decode cX1_sumLosses 62 = .ok (.goto (-52), 3) := by decide +kernel
theorem dX1_sumLosses_65 : decode cX1_sumLosses 65 = .ok (.return_, 1) := by decide +kernel
theorem dX1_reckonFleet_0 : decode cX1_reckonFleet 0 = .ok (.aload_n 0, 1) := by decide +kernel
theorem dX1_reckonFleet_1 : decode cX1_reckonFleet 1 = .ok (.iload_n 2, 1) := by decide +kernel
theorem dX1_reckonFleet_2 : decode cX1_reckonFleet 2 = .ok (.invokevirtual 120, 3) := by decide +kernel
theorem dX1_reckonFleet_5 : decode cX1_reckonFleet 5 = .ok (.ifCond .ne 4, 3) := by decide +kernel
theorem dX1_reckonFleet_8 : decode cX1_reckonFleet 8 = .ok (.return_, 1) := by decide +kernel
theorem dX1_reckonFleet_9 : decode cX1_reckonFleet 9 = .ok (.aload_n 0, 1) := by decide +kernel
theorem dX1_reckonFleet_10 : decode cX1_reckonFleet 10 = .ok (.getfield 9, 3) := by decide +kernel
theorem dX1_reckonFleet_13 : decode cX1_reckonFleet 13 = .ok (.iload_n 2, 1) := by decide +kernel
theorem dX1_reckonFleet_14 : decode cX1_reckonFleet 14 = .ok (.aload_n 1, 1) := by decide +kernel
theorem dX1_reckonFleet_15 : decode cX1_reckonFleet 15 = .ok (.iload_n 2, 1) := by decide +kernel
theorem dX1_reckonFleet_16 : decode cX1_reckonFleet 16 = .ok (.invokevirtual 124, 3) := by decide +kernel
theorem dX1_reckonFleet_19 : decode cX1_reckonFleet 19 = .ok (.iastore, 1) := by decide +kernel
theorem dX1_reckonFleet_20 : decode cX1_reckonFleet 20 = .ok (.aload_n 0, 1) := by decide +kernel
theorem dX1_reckonFleet_21 : decode cX1_reckonFleet 21 = .ok (.getfield 18, 3) := by decide +kernel
theorem dX1_reckonFleet_24 : decode cX1_reckonFleet 24 = .ok (.iload_n 2, 1) := by decide +kernel
theorem dX1_reckonFleet_25 : decode cX1_reckonFleet 25 = .ok (.aload_n 1, 1) := by decide +kernel
theorem dX1_reckonFleet_26 : decode cX1_reckonFleet 26 = .ok (.iload_n 2, 1) := by decide +kernel
theorem dX1_reckonFleet_27 : decode cX1_reckonFleet 27 = .ok (.invokevirtual 127, 3) := by decide +kernel
theorem dX1_reckonFleet_30 : decode cX1_reckonFleet 30 = .ok (.invokestatic 130, 3) := by decide +kernel
theorem dX1_reckonFleet_33 : decode cX1_reckonFleet 33 = .ok (.iastore, 1) := by decide +kernel
theorem dX1_reckonFleet_34 : decode cX1_reckonFleet 34 = .ok (.aload_n 0, 1) := by decide +kernel
theorem dX1_reckonFleet_35 : decode cX1_reckonFleet 35 = .ok (.getfield 21, 3) := by decide +kernel
theorem dX1_reckonFleet_38 : decode cX1_reckonFleet 38 = .ok (.iload_n 2, 1) := by decide +kernel
theorem dX1_reckonFleet_39 : decode cX1_reckonFleet 39 = .ok (.iconst 0, 1) := by decide +kernel
theorem dX1_reckonFleet_40 : decode cX1_reckonFleet 40 = .ok (.iastore, 1) := by decide +kernel
theorem dX1_reckonFleet_41 : decode cX1_reckonFleet 41 = .ok (.aload_n 0, 1) := by decide +kernel
theorem dX1_reckonFleet_42 : decode cX1_reckonFleet 42 = .ok (.getfield 24, 3) := by decide +kernel
theorem dX1_reckonFleet_45 : decode cX1_reckonFleet 45 = .ok (.iload_n 2, 1) := by decide +kernel
theorem dX1_reckonFleet_46 : decode cX1_reckonFleet 46 = .ok (.iconst 0, 1) := by decide +kernel
theorem dX1_reckonFleet_47 : decode cX1_reckonFleet 47 = .ok (.iastore, 1) := by decide +kernel
theorem dX1_reckonFleet_48 : decode cX1_reckonFleet 48 = .ok (.iconst 0, 1) := by decide +kernel
theorem dX1_reckonFleet_49 : decode cX1_reckonFleet 49 = .ok (.istore_n 3, 1) := by decide +kernel
theorem dX1_reckonFleet_50 : decode cX1_reckonFleet 50 = .ok (.iload_n 3, 1) := by decide +kernel
theorem dX1_reckonFleet_51 : decode cX1_reckonFleet 51 = .ok (.iconst 5, 1) := by decide +kernel
theorem dX1_reckonFleet_52 : decode cX1_reckonFleet 52 = .ok (.if_icmp .ge 42, 3) := by decide +kernel
theorem dX1_reckonFleet_55 : decode cX1_reckonFleet 55 = .ok (.aload_n 0, 1) := by decide +kernel
theorem dX1_reckonFleet_56 : decode cX1_reckonFleet 56 = .ok (.iload_n 2, 1) := by decide +kernel
theorem dX1_reckonFleet_57 : decode cX1_reckonFleet 57 = .ok (.iload_n 3, 1) := by decide +kernel
theorem dX1_reckonFleet_58 : decode cX1_reckonFleet 58 = .ok (.invokevirtual 135, 3) := by decide +kernel
theorem dX1_reckonFleet_61 : decode cX1_reckonFleet 61 = .ok (.istore 4, 2) := by decide +kernel
theorem dX1_reckonFleet_63 : decode cX1_reckonFleet 63 = .ok (.aload_n 0, 1) := by decide +kernel
theorem dX1_reckonFleet_64 : decode cX1_reckonFleet 64 = .ok (.getfield 21, 3) := by decide +kernel
theorem dX1_reckonFleet_67 : decode cX1_reckonFleet 67 = .ok (.iload_n 2, 1) := by decide +kernel
theorem dX1_reckonFleet_68 : decode cX1_reckonFleet 68 = .ok (.dup2, 1) := by decide +kernel
theorem dX1_reckonFleet_69 : decode cX1_reckonFleet 69 = .ok (.iaload, 1) := by decide +kernel
theorem dX1_reckonFleet_70 : decode cX1_reckonFleet 70 = .ok (.iload 4, 2) := by decide +kernel
theorem dX1_reckonFleet_72 : decode cX1_reckonFleet 72 = .ok (.iadd, 1) := by decide +kernel
theorem dX1_reckonFleet_73 : decode cX1_reckonFleet 73 = .ok (.iastore, 1) := by decide +kernel
theorem dX1_reckonFleet_74 : decode cX1_reckonFleet 74 = .ok (.aload_n 0, 1) := by decide +kernel
theorem dX1_reckonFleet_75 : decode cX1_reckonFleet 75 = .ok (.getfield 24, 3) := by decide +kernel
theorem dX1_reckonFleet_78 : decode cX1_reckonFleet 78 = .ok (.iload_n 2, 1) := by decide +kernel
theorem dX1_reckonFleet_79 : decode cX1_reckonFleet 79 = .ok (.dup2, 1) := by decide +kernel
theorem dX1_reckonFleet_80 : decode cX1_reckonFleet 80 = .ok (.iaload, 1) := by decide +kernel
theorem dX1_reckonFleet_81 : decode cX1_reckonFleet 81 = .ok (.iload 4, 2) := by decide +kernel
theorem dX1_reckonFleet_83 : decode cX1_reckonFleet 83 = .ok (.iload 4, 2) := by decide +kernel
theorem dX1_reckonFleet_85 : decode cX1_reckonFleet 85 = .ok (.imul, 1) := by decide +kernel
theorem dX1_reckonFleet_86 : decode cX1_reckonFleet 86 = .ok (.iadd, 1) := by decide +kernel
theorem dX1_reckonFleet_87 : decode cX1_reckonFleet 87 = .ok (.iastore, 1) := by decide +kernel
theorem dX1_reckonFleet_88 : decode cX1_reckonFleet 88 = .ok (.iinc 3 1, 3) := by decide +kernel
theorem dX1_reckonFleet_91 : decode cX1_reckonFleet 91 = .ok (.goto (-41), 3) := by decide +kernel
theorem dX1_reckonFleet_94 : decode cX1_reckonFleet 94 = .ok (.aload_n 0, 1) := by decide +kernel
theorem dX1_reckonFleet_95 : decode cX1_reckonFleet 95 = .ok (.getfield 18, 3) := by decide +kernel
theorem dX1_reckonFleet_98 : decode cX1_reckonFleet 98 = .ok (.iload_n 2, 1) := by decide +kernel
theorem dX1_reckonFleet_99 : decode cX1_reckonFleet 99 = .ok (.iaload, 1) := by decide +kernel
theorem dX1_reckonFleet_100 : decode cX1_reckonFleet 100 = .ok (.ifCond .le 64, 3) := by decide +kernel
theorem dX1_reckonFleet_103 : decode cX1_reckonFleet 103 = .ok (.aload_n 0, 1) := by decide +kernel
theorem dX1_reckonFleet_104 : decode cX1_reckonFleet 104 = .ok (.aload_n 0, 1) := by decide +kernel
theorem dX1_reckonFleet_105 : decode cX1_reckonFleet 105 = .ok (.getfield 9, 3) := by decide +kernel
theorem dX1_reckonFleet_108 : decode cX1_reckonFleet 108 = .ok (.iload_n 2, 1) := by decide +kernel
theorem dX1_reckonFleet_109 : decode cX1_reckonFleet 109 = .ok (.iaload, 1) := by decide +kernel
theorem dX1_reckonFleet_110 : decode cX1_reckonFleet 110 = .ok (.invokevirtual 138, 3) := by decide +kernel
theorem dX1_reckonFleet_113 : decode cX1_reckonFleet 113 = .ok (.aload_n 0, 1) := by decide +kernel
theorem dX1_reckonFleet_114 : decode cX1_reckonFleet 114 = .ok (.getfield 18, 3) := by decide +kernel
theorem dX1_reckonFleet_117 : decode cX1_reckonFleet 117 = .ok (.iload_n 2, 1) := by decide +kernel
theorem dX1_reckonFleet_118 : decode cX1_reckonFleet 118 = .ok (.iaload, 1) := by decide +kernel
theorem dX1_reckonFleet_119 : decode cX1_reckonFleet 119 = .ok (.aload_n 0, 1) := by decide +kernel
theorem dX1_reckonFleet_120 : decode cX1_reckonFleet 120 = .ok (.getfield 21, 3) := by decide +kernel
theorem dX1_reckonFleet_123 : decode cX1_reckonFleet 123 = .ok (.iload_n 2, 1) := by decide +kernel
theorem dX1_reckonFleet_124 : decode cX1_reckonFleet 124 = .ok (.iaload, 1) := by decide +kernel
theorem dX1_reckonFleet_125 : decode cX1_reckonFleet 125 = .ok (.aload_n 0, 1) := by decide +kernel
theorem dX1_reckonFleet_126 : decode cX1_reckonFleet 126 = .ok (.getfield 24, 3) := by decide +kernel
theorem dX1_reckonFleet_129 : decode cX1_reckonFleet 129 = .ok (.iload_n 2, 1) := by decide +kernel
theorem dX1_reckonFleet_130 : decode cX1_reckonFleet 130 = .ok (.iaload, 1) := by decide +kernel
theorem dX1_reckonFleet_131 : decode cX1_reckonFleet 131 = .ok (.invokevirtual 142, 3) := by decide +kernel
theorem dX1_reckonFleet_134 : decode cX1_reckonFleet 134 = .ok (.aload_n 0, 1) := by decide +kernel
theorem dX1_reckonFleet_135 : decode cX1_reckonFleet 135 = .ok (.dup, 1) := by decide +kernel
theorem dX1_reckonFleet_136 : decode cX1_reckonFleet 136 = .ok (.getfield 73, 3) := by decide +kernel
theorem dX1_reckonFleet_139 : decode cX1_reckonFleet 139 = .ok (.aload_n 0, 1) := by decide +kernel
theorem dX1_reckonFleet_140 : decode cX1_reckonFleet 140 = .ok (.getfield 21, 3) := by decide +kernel
theorem dX1_reckonFleet_143 : decode cX1_reckonFleet 143 = .ok (.iload_n 2, 1) := by decide +kernel
theorem dX1_reckonFleet_144 : decode cX1_reckonFleet 144 = .ok (.iaload, 1) := by decide +kernel
theorem dX1_reckonFleet_145 : decode cX1_reckonFleet 145 = .ok (.iadd, 1) := by decide +kernel
theorem dX1_reckonFleet_146 : decode cX1_reckonFleet 146 = .ok (.putfield 73, 3) := by decide +kernel
theorem dX1_reckonFleet_149 : decode cX1_reckonFleet 149 = .ok (.aload_n 0, 1) := by decide +kernel
theorem dX1_reckonFleet_150 : decode cX1_reckonFleet 150 = .ok (.dup, 1) := by decide +kernel
theorem dX1_reckonFleet_151 : decode cX1_reckonFleet 151 = .ok (.getfield 76, 3) := by decide +kernel
theorem dX1_reckonFleet_154 : decode cX1_reckonFleet 154 = .ok (.aload_n 0, 1) := by decide +kernel
theorem dX1_reckonFleet_155 : decode cX1_reckonFleet 155 = .ok (.getfield 18, 3) := by decide +kernel
theorem dX1_reckonFleet_158 : decode cX1_reckonFleet 158 = .ok (.iload_n 2, 1) := by decide +kernel
theorem dX1_reckonFleet_159 : decode cX1_reckonFleet 159 = .ok (.iaload, 1) := by decide +kernel
theorem dX1_reckonFleet_160 : decode cX1_reckonFleet 160 = .ok (.iadd, 1) := by decide +kernel
theorem dX1_reckonFleet_161 : decode cX1_reckonFleet 161 = .ok (.putfield 76, 3) := by decide +kernel
theorem dX1_reckonFleet_164 : decode cX1_reckonFleet 164 = .ok (.return_, 1) := by decide +kernel
theorem dX1_reckonShare_0 : decode cX1_reckonShare 0 = .ok (.aload_n 0, 1) := by decide +kernel
theorem dX1_reckonShare_1 : decode cX1_reckonShare 1 = .ok (.iload_n 1, 1) := by decide +kernel
theorem dX1_reckonShare_2 : decode cX1_reckonShare 2 = .ok (.invokevirtual 120, 3) := by decide +kernel
theorem dX1_reckonShare_5 : decode cX1_reckonShare 5 = .ok (.ifCond .ne 4, 3) := by decide +kernel
theorem dX1_reckonShare_8 : decode cX1_reckonShare 8 = .ok (.return_, 1) := by decide +kernel
theorem dX1_reckonShare_9 : decode cX1_reckonShare 9 = .ok (.aload_n 0, 1) := by decide +kernel
theorem dX1_reckonShare_10 : decode cX1_reckonShare 10 = .ok (.getfield 27, 3) := by decide +kernel
theorem dX1_reckonShare_13 : decode cX1_reckonShare 13 = .ok (.iload_n 1, 1) := by decide +kernel
theorem dX1_reckonShare_14 : decode cX1_reckonShare 14 = .ok (.bipush (-2), 2) := by decide +kernel
theorem dX1_reckonShare_16 : decode cX1_reckonShare 16 = .ok (.iastore, 1) := by decide +kernel
theorem dX1_reckonShare_17 : decode cX1_reckonShare 17 = .ok (.aload_n 0, 1) := by decide +kernel
theorem dX1_reckonShare_18 : decode cX1_reckonShare 18 = .ok (.getfield 18, 3) := by decide +kernel
theorem dX1_reckonShare_21 : decode cX1_reckonShare 21 = .ok (.iload_n 1, 1) := by decide +kernel
theorem dX1_reckonShare_22 : decode cX1_reckonShare 22 = .ok (.iaload, 1) := by decide +kernel
theorem dX1_reckonShare_23 : decode cX1_reckonShare 23 = .ok (.ifCond .le 52, 3) := by decide +kernel
theorem dX1_reckonShare_26 : decode cX1_reckonShare 26 = .ok (.aload_n 0, 1) := by decide +kernel
theorem dX1_reckonShare_27 : decode cX1_reckonShare 27 = .ok (.aload_n 0, 1) := by decide +kernel
theorem dX1_reckonShare_28 : decode cX1_reckonShare 28 = .ok (.getfield 9, 3) := by decide +kernel
theorem dX1_reckonShare_31 : decode cX1_reckonShare 31 = .ok (.iload_n 1, 1) := by decide +kernel
theorem dX1_reckonShare_32 : decode cX1_reckonShare 32 = .ok (.iaload, 1) := by decide +kernel
theorem dX1_reckonShare_33 : decode cX1_reckonShare 33 = .ok (.invokevirtual 138, 3) := by decide +kernel
theorem dX1_reckonShare_36 : decode cX1_reckonShare 36 = .ok (.astore_n 2, 1) := by decide +kernel
theorem dX1_reckonShare_37 : decode cX1_reckonShare 37 = .ok (.aload_n 0, 1) := by decide +kernel
theorem dX1_reckonShare_38 : decode cX1_reckonShare 38 = .ok (.getfield 27, 3) := by decide +kernel
theorem dX1_reckonShare_41 : decode cX1_reckonShare 41 = .ok (.iload_n 1, 1) := by decide +kernel
theorem dX1_reckonShare_42 : decode cX1_reckonShare 42 = .ok (.aload_n 2, 1) := by decide +kernel
theorem dX1_reckonShare_43 : decode cX1_reckonShare 43 = .ok (.aload_n 0, 1) := by decide +kernel
theorem dX1_reckonShare_44 : decode cX1_reckonShare 44 = .ok (.getfield 18, 3) := by decide +kernel
theorem dX1_reckonShare_47 : decode cX1_reckonShare 47 = .ok (.iload_n 1, 1) := by decide +kernel
theorem dX1_reckonShare_48 : decode cX1_reckonShare 48 = .ok (.iaload, 1) := by decide +kernel
theorem dX1_reckonShare_49 : decode cX1_reckonShare 49 = .ok (.invokevirtual 146, 3) := by decide +kernel
theorem dX1_reckonShare_52 : decode cX1_reckonShare 52 = .ok (.iastore, 1) := by decide +kernel
theorem dX1_reckonShare_53 : decode cX1_reckonShare 53 = .ok (.aload_n 2, 1) := by decide +kernel
theorem dX1_reckonShare_54 : decode cX1_reckonShare 54 = .ok (.aload_n 0, 1) := by decide +kernel
theorem dX1_reckonShare_55 : decode cX1_reckonShare 55 = .ok (.getfield 18, 3) := by decide +kernel
theorem dX1_reckonShare_58 : decode cX1_reckonShare 58 = .ok (.iload_n 1, 1) := by decide +kernel
theorem dX1_reckonShare_59 : decode cX1_reckonShare 59 = .ok (.iaload, 1) := by decide +kernel
theorem dX1_reckonShare_60 : decode cX1_reckonShare 60 = .ok (.aload_n 0, 1) := by decide +kernel
theorem dX1_reckonShare_61 : decode cX1_reckonShare 61 = .ok (.getfield 21, 3) := by decide +kernel
theorem dX1_reckonShare_64 : decode cX1_reckonShare 64 = .ok (.iload_n 1, 1) := by decide +kernel
theorem dX1_reckonShare_65 : decode cX1_reckonShare 65 = .ok (.iaload, 1) := by decide +kernel
theorem dX1_reckonShare_66 : decode cX1_reckonShare 66 = .ok (.aload_n 0, 1) := by decide +kernel
theorem dX1_reckonShare_67 : decode cX1_reckonShare 67 = .ok (.getfield 27, 3) := by decide +kernel
theorem dX1_reckonShare_70 : decode cX1_reckonShare 70 = .ok (.iload_n 1, 1) := by decide +kernel
theorem dX1_reckonShare_71 : decode cX1_reckonShare 71 = .ok (.iaload, 1) := by decide +kernel
theorem dX1_reckonShare_72 : decode cX1_reckonShare 72 = .ok (.invokevirtual 149, 3) := by decide +kernel
theorem dX1_reckonShare_75 : decode cX1_reckonShare 75 = .ok (.return_, 1) := by decide +kernel
theorem dX1_hasRow_0 : decode cX1_hasRow 0 = .ok (.iload_n 1, 1) := by decide +kernel
theorem dX1_hasRow_1 : decode cX1_hasRow 1 = .ok (.ifCond .lt 15, 3) := by decide +kernel
theorem dX1_hasRow_4 : decode cX1_hasRow 4 = .ok (.iload_n 1, 1) := by decide +kernel
theorem dX1_hasRow_5 : decode cX1_hasRow 5 = .ok (.aload_n 0, 1) := by decide +kernel
theorem dX1_hasRow_6 : decode cX1_hasRow 6 = .ok (.getfield 65, 3) := by decide +kernel
theorem dX1_hasRow_9 : decode cX1_hasRow 9 = .ok (.if_icmp .ge 7, 3) := by decide +kernel
theorem dX1_hasRow_12 : decode cX1_hasRow 12 = .ok (.iconst 1, 1) := by decide +kernel
theorem dX1_hasRow_13 : decode cX1_hasRow 13 = .ok (.goto 4, 3) := by decide +kernel
theorem dX1_hasRow_16 : decode cX1_hasRow 16 = .ok (.iconst 0, 1) := by decide +kernel
theorem dX1_hasRow_17 : decode cX1_hasRow 17 = .ok (.ireturn, 1) := by decide +kernel
theorem dX1_isRated_0 : decode cX1_isRated 0 = .ok (.aload_n 0, 1) := by decide +kernel
theorem dX1_isRated_1 : decode cX1_isRated 1 = .ok (.iload_n 1, 1) := by decide +kernel
theorem dX1_isRated_2 : decode cX1_isRated 2 = .ok (.invokevirtual 120, 3) := by decide +kernel
theorem dX1_isRated_5 : decode cX1_isRated 5 = .ok (.ifCond .eq 16, 3) := by decide +kernel
theorem dX1_isRated_8 : decode cX1_isRated 8 = .ok (.aload_n 0, 1) := by decide +kernel
theorem dX1_isRated_9 : decode cX1_isRated 9 = .ok (.getfield 18, 3) := by decide +kernel
theorem dX1_isRated_12 : decode cX1_isRated 12 = .ok (.iload_n 1, 1) := by decide +kernel
theorem dX1_isRated_13 : decode cX1_isRated 13 = .ok (.iaload, 1) := by decide +kernel
theorem dX1_isRated_14 : decode cX1_isRated 14 = .ok (.ifCond .le 7, 3) := by decide +kernel
theorem dX1_isRated_17 : decode cX1_isRated 17 = .ok (.iconst 1, 1) := by decide +kernel
theorem dX1_isRated_18 : decode cX1_isRated 18 = .ok (.goto 4, 3) := by decide +kernel
theorem dX1_isRated_21 : decode cX1_isRated 21 = .ok (.iconst 0, 1) := by decide +kernel
theorem dX1_isRated_22 : decode cX1_isRated 22 = .ok (.ireturn, 1) := by decide +kernel
theorem dX1_spanOf_0 : decode cX1_spanOf 0 = .ok (.aload_n 0, 1) := by decide +kernel
theorem dX1_spanOf_1 : decode cX1_spanOf 1 = .ok (.iload_n 1, 1) := by decide +kernel
theorem dX1_spanOf_2 : decode cX1_spanOf 2 = .ok (.invokevirtual 120, 3) := by decide +kernel
theorem dX1_spanOf_5 : decode cX1_spanOf 5 = .ok (.ifCond .eq 12, 3) := by decide +kernel
theorem dX1_spanOf_8 : decode cX1_spanOf 8 = .ok (.aload_n 0, 1) := by decide +kernel
theorem dX1_spanOf_9 : decode cX1_spanOf 9 = .ok (.getfield 18, 3) := by decide +kernel
theorem dX1_spanOf_12 : decode cX1_spanOf 12 = .ok (.iload_n 1, 1) := by decide +kernel
theorem dX1_spanOf_13 : decode cX1_spanOf 13 = .ok (.iaload, 1) := by decide +kernel
theorem dX1_spanOf_14 : decode cX1_spanOf 14 = .ok (.goto 4, 3) := by decide +kernel
theorem dX1_spanOf_17 : decode cX1_spanOf 17 = .ok (.iconst 0, 1) := by decide +kernel
theorem dX1_spanOf_18 : decode cX1_spanOf 18 = .ok (.ireturn, 1) := by decide +kernel
theorem dX1_sumOf_0 : decode cX1_sumOf 0 = .ok (.aload_n 0, 1) := by decide +kernel
theorem dX1_sumOf_1 : decode cX1_sumOf 1 = .ok (.iload_n 1, 1) := by decide +kernel
theorem dX1_sumOf_2 : decode cX1_sumOf 2 = .ok (.invokevirtual 120, 3) := by decide +kernel
theorem dX1_sumOf_5 : decode cX1_sumOf 5 = .ok (.ifCond .eq 12, 3) := by decide +kernel
theorem dX1_sumOf_8 : decode cX1_sumOf 8 = .ok (.aload_n 0, 1) := by decide +kernel
theorem dX1_sumOf_9 : decode cX1_sumOf 9 = .ok (.getfield 21, 3) := by decide +kernel
theorem dX1_sumOf_12 : decode cX1_sumOf 12 = .ok (.iload_n 1, 1) := by decide +kernel
theorem dX1_sumOf_13 : decode cX1_sumOf 13 = .ok (.iaload, 1) := by decide +kernel
theorem dX1_sumOf_14 : decode cX1_sumOf 14 = .ok (.goto 4, 3) := by decide +kernel
theorem dX1_sumOf_17 : decode cX1_sumOf 17 = .ok (.iconst 0, 1) := by decide +kernel
theorem dX1_sumOf_18 : decode cX1_sumOf 18 = .ok (.ireturn, 1) := by decide +kernel
theorem dX1_squaresOf_0 : decode cX1_squaresOf 0 = .ok (.aload_n 0, 1) := by decide +kernel
theorem dX1_squaresOf_1 : decode cX1_squaresOf 1 = .ok (.iload_n 1, 1) := by decide +kernel
theorem dX1_squaresOf_2 : decode cX1_squaresOf 2 = .ok (.invokevirtual 120, 3) := by decide +kernel
theorem dX1_squaresOf_5 : decode cX1_squaresOf 5 = .ok (.ifCond .eq 12, 3) := by decide +kernel
theorem dX1_squaresOf_8 : decode cX1_squaresOf 8 = .ok (.aload_n 0, 1) := by decide +kernel
theorem dX1_squaresOf_9 : decode cX1_squaresOf 9 = .ok (.getfield 24, 3) := by decide +kernel
theorem dX1_squaresOf_12 : decode cX1_squaresOf 12 = .ok (.iload_n 1, 1) := by decide +kernel
theorem dX1_squaresOf_13 : decode cX1_squaresOf 13 = .ok (.iaload, 1) := by decide +kernel
theorem dX1_squaresOf_14 : decode cX1_squaresOf 14 = .ok (.goto 4, 3) := by decide +kernel
theorem dX1_squaresOf_17 : decode cX1_squaresOf 17 = .ok (.iconst 0, 1) := by decide +kernel
theorem dX1_squaresOf_18 : decode cX1_squaresOf 18 = .ok (.ireturn, 1) := by decide +kernel
theorem dX1_shareOf_0 : decode cX1_shareOf 0 = .ok (.aload_n 0, 1) := by decide +kernel
theorem dX1_shareOf_1 : decode cX1_shareOf 1 = .ok (.iload_n 1, 1) := by decide +kernel
theorem dX1_shareOf_2 : decode cX1_shareOf 2 = .ok (.invokevirtual 120, 3) := by decide +kernel
theorem dX1_shareOf_5 : decode cX1_shareOf 5 = .ok (.ifCond .eq 12, 3) := by decide +kernel
theorem dX1_shareOf_8 : decode cX1_shareOf 8 = .ok (.aload_n 0, 1) := by decide +kernel
theorem dX1_shareOf_9 : decode cX1_shareOf 9 = .ok (.getfield 27, 3) := by decide +kernel
theorem dX1_shareOf_12 : decode cX1_shareOf 12 = .ok (.iload_n 1, 1) := by decide +kernel
theorem dX1_shareOf_13 : decode cX1_shareOf 13 = .ok (.iaload, 1) := by decide +kernel
theorem dX1_shareOf_14 : decode cX1_shareOf 14 = .ok (.goto 5, 3) := by decide +kernel
theorem dX1_shareOf_17 : decode cX1_shareOf 17 = .ok (.bipush (-2), 2) := by decide +kernel
theorem dX1_shareOf_19 : decode cX1_shareOf 19 = .ok (.ireturn, 1) := by decide +kernel
theorem dX1_lossOf_0 : decode cX1_lossOf 0 = .ok (.aload_n 0, 1) := by decide +kernel
theorem dX1_lossOf_1 : decode cX1_lossOf 1 = .ok (.iload_n 1, 1) := by decide +kernel
theorem dX1_lossOf_2 : decode cX1_lossOf 2 = .ok (.invokevirtual 120, 3) := by decide +kernel
theorem dX1_lossOf_5 : decode cX1_lossOf 5 = .ok (.ifCond .eq 23, 3) := by decide +kernel
theorem dX1_lossOf_8 : decode cX1_lossOf 8 = .ok (.iload_n 2, 1) := by decide +kernel
theorem dX1_lossOf_9 : decode cX1_lossOf 9 = .ok (.invokestatic 152, 3) := by decide +kernel
theorem dX1_lossOf_12 : decode cX1_lossOf 12 = .ok (.ifCond .eq 16, 3) := by decide +kernel
theorem dX1_lossOf_15 : decode cX1_lossOf 15 = .ok (.aload_n 0, 1) := by decide +kernel
theorem dX1_lossOf_16 : decode cX1_lossOf 16 = .ok (.getfield 15, 3) := by decide +kernel
theorem dX1_lossOf_19 : decode cX1_lossOf 19 = .ok (.iload_n 1, 1) := by decide +kernel
theorem dX1_lossOf_20 : decode cX1_lossOf 20 = .ok (.iconst 5, 1) := by decide +kernel
theorem dX1_lossOf_21 : decode cX1_lossOf 21 = .ok (.imul, 1) := by decide +kernel
theorem dX1_lossOf_22 : decode cX1_lossOf 22 = .ok (.iload_n 2, 1) := by decide +kernel
theorem dX1_lossOf_23 : decode cX1_lossOf 23 = .ok (.iadd, 1) := by decide +kernel
theorem dX1_lossOf_24 : decode cX1_lossOf 24 = .ok (.iaload, 1) := by decide +kernel
theorem dX1_lossOf_25 : decode cX1_lossOf 25 = .ok (.goto 4, 3) := by decide +kernel
theorem dX1_lossOf_28 : decode cX1_lossOf 28 = .ok (.iconst 0, 1) := by decide +kernel
theorem dX1_lossOf_29 : decode cX1_lossOf 29 = .ok (.ireturn, 1) := by decide +kernel
theorem dX1_poolOf_0 : decode cX1_poolOf 0 = .ok (.iload_n 1, 1) := by decide +kernel
theorem dX1_poolOf_1 : decode cX1_poolOf 1 = .ok (.ifCond .ne 8, 3) := by decide +kernel
theorem dX1_poolOf_4 : decode cX1_poolOf 4 = .ok (.aload_n 0, 1) := by decide +kernel
theorem dX1_poolOf_5 : decode cX1_poolOf 5 = .ok (.getfield 33, 3) := by decide +kernel
theorem dX1_poolOf_8 : decode cX1_poolOf 8 = .ok (.areturn, 1) := by decide +kernel
theorem dX1_poolOf_9 : decode cX1_poolOf 9 = .ok (.iload_n 1, 1) := by decide +kernel
theorem dX1_poolOf_10 : decode cX1_poolOf 10 = .ok (.iconst 1, 1) := by decide +kernel
theorem dX1_poolOf_11 : decode cX1_poolOf 11 = .ok (.if_icmp .ne 10, 3) := by decide +kernel
theorem dX1_poolOf_14 : decode cX1_poolOf 14 = .ok (.aload_n 0, 1) := by decide +kernel
theorem dX1_poolOf_15 : decode cX1_poolOf 15 = .ok (.getfield 37, 3) := by decide +kernel
theorem dX1_poolOf_18 : decode cX1_poolOf 18 = .ok (.goto 7, 3) := by decide +kernel
theorem dX1_poolOf_21 : decode cX1_poolOf 21 = .ok (.aload_n 0, 1) := by decide +kernel
theorem dX1_poolOf_22 : decode cX1_poolOf 22 = .ok (.getfield 40, 3) := by decide +kernel
theorem dX1_poolOf_25 : decode cX1_poolOf 25 = .ok (.areturn, 1) := by decide +kernel
theorem dX1_shareBySpan_0 : decode cX1_shareBySpan 0 = .ok (.aload_n 0, 1) := by decide +kernel
theorem dX1_shareBySpan_1 : decode cX1_shareBySpan 1 = .ok (.iload_n 1, 1) := by decide +kernel
theorem dX1_shareBySpan_2 : decode cX1_shareBySpan 2 = .ok (.invokevirtual 120, 3) := by decide +kernel
theorem dX1_shareBySpan_5 : decode cX1_shareBySpan 5 = .ok (.ifCond .eq 20, 3) := by decide +kernel
theorem dX1_shareBySpan_8 : decode cX1_shareBySpan 8 = .ok (.aload_n 0, 1) := by decide +kernel
theorem dX1_shareBySpan_9 : decode cX1_shareBySpan 9 = .ok (.aload_n 0, 1) := by decide +kernel
theorem dX1_shareBySpan_10 : decode cX1_shareBySpan 10 = .ok (.getfield 9, 3) := by decide +kernel
theorem dX1_shareBySpan_13 : decode cX1_shareBySpan 13 = .ok (.iload_n 1, 1) := by decide +kernel
theorem dX1_shareBySpan_14 : decode cX1_shareBySpan 14 = .ok (.iaload, 1) := by decide +kernel
theorem dX1_shareBySpan_15 : decode cX1_shareBySpan 15 = .ok (.invokevirtual 138, 3) := by decide +kernel
theorem dX1_shareBySpan_18 : decode cX1_shareBySpan 18 = .ok (.iload_n 2, 1) := by decide +kernel
theorem dX1_shareBySpan_19 : decode cX1_shareBySpan 19 = .ok (.invokevirtual 146, 3) := by decide +kernel
theorem dX1_shareBySpan_22 : decode cX1_shareBySpan 22 = .ok (.goto 4, 3) := by decide +kernel
theorem dX1_shareBySpan_25 : decode cX1_shareBySpan 25 = .ok (.iconst 0, 1) := by decide +kernel
theorem dX1_shareBySpan_26 : decode cX1_shareBySpan 26 = .ok (.ireturn, 1) := by decide +kernel
theorem dX1_putWhole_0 : decode cX1_putWhole 0 = .ok (.aload_n 1, 1) := by decide +kernel
theorem dX1_putWhole_1 : decode cX1_putWhole 1 = .ok (.aload_n 0, 1) := by decide +kernel
theorem dX1_putWhole_2 : decode cX1_putWhole 2 = .ok (.getfield 73, 3) := by decide +kernel
theorem dX1_putWhole_5 : decode cX1_putWhole 5 = .ok (.i2l, 1) := by decide +kernel
theorem dX1_putWhole_6 : decode cX1_putWhole 6 = .ok (.aload_n 0, 1) := by decide +kernel
theorem dX1_putWhole_7 : decode cX1_putWhole 7 = .ok (.getfield 76, 3) := by decide +kernel
theorem dX1_putWhole_10 : decode cX1_putWhole 10 = .ok (.i2l, 1) := by decide +kernel
theorem dX1_putWhole_11 : decode cX1_putWhole 11 = .ok (.invokevirtual 155, 3) := by decide +kernel
theorem dX1_putWhole_14 : decode cX1_putWhole 14 = .ok (.return_, 1) := by decide +kernel
theorem dX1_putRate_0 : decode cX1_putRate 0 = .ok (.aload_n 2, 1) := by decide +kernel
theorem dX1_putRate_1 : decode cX1_putRate 1 = .ok (.invokevirtual 159, 3) := by decide +kernel
theorem dX1_putRate_4 : decode cX1_putRate 4 = .ok (.aload_n 0, 1) := by decide +kernel
theorem dX1_putRate_5 : decode cX1_putRate 5 = .ok (.iload_n 1, 1) := by decide +kernel
theorem dX1_putRate_6 : decode cX1_putRate 6 = .ok (.invokevirtual 162, 3) := by decide +kernel
theorem dX1_putRate_9 : decode cX1_putRate 9 = .ok (.ifCond .eq 80, 3) := by decide +kernel
theorem dX1_putRate_12 : decode cX1_putRate 12 = .ok (.aload_n 0, 1) := by decide +kernel
theorem dX1_putRate_13 : decode cX1_putRate 13 = .ok (.aload_n 0, 1) := by decide +kernel
theorem dX1_putRate_14 : decode cX1_putRate 14 = .ok (.getfield 9, 3) := by decide +kernel
theorem dX1_putRate_17 : decode cX1_putRate 17 = .ok (.iload_n 1, 1) := by decide +kernel
theorem dX1_putRate_18 : decode cX1_putRate 18 = .ok (.iaload, 1) := by decide +kernel
theorem dX1_putRate_19 : decode cX1_putRate 19 = .ok (.invokevirtual 138, 3) := by decide +kernel
theorem dX1_putRate_22 : decode cX1_putRate 22 = .ok (.getfield 165, 3) := by decide +kernel
theorem dX1_putRate_25 : decode cX1_putRate 25 = .ok (.astore_n 3, 1) := by decide +kernel
theorem dX1_putRate_26 : decode cX1_putRate 26 = .ok (.aload_n 0, 1) := by decide +kernel
theorem dX1_putRate_27 : decode cX1_putRate 27 = .ok (.getfield 27, 3) := by decide +kernel
theorem dX1_putRate_30 : decode cX1_putRate 30 = .ok (.iload_n 1, 1) := by decide +kernel
theorem dX1_putRate_31 : decode cX1_putRate 31 = .ok (.iaload, 1) := by decide +kernel
theorem dX1_putRate_32 : decode cX1_putRate 32 = .ok (.i2l, 1) := by decide +kernel
theorem dX1_putRate_33 : decode cX1_putRate 33 = .ok (.lstore 4, 2) := by decide +kernel
theorem dX1_putRate_35 : decode cX1_putRate 35 = .ok (.aload_n 0, 1) := by decide +kernel
theorem dX1_putRate_36 : decode cX1_putRate 36 = .ok (.getfield 18, 3) := by decide +kernel
theorem dX1_putRate_39 : decode cX1_putRate 39 = .ok (.iload_n 1, 1) := by decide +kernel
theorem dX1_putRate_40 : decode cX1_putRate 40 = .ok (.iaload, 1) := by decide +kernel
theorem dX1_putRate_41 : decode cX1_putRate 41 = .ok (.i2l, 1) := by decide +kernel
theorem dX1_putRate_42 : decode cX1_putRate 42 = .ok (.lstore 6, 2) := by decide +kernel
theorem dX1_putRate_44 : decode cX1_putRate 44 = .ok (.aload_n 2, 1) := by decide +kernel
theorem dX1_putRate_45 : decode cX1_putRate 45 = .ok (.lload 4, 2) := by decide +kernel
theorem dX1_putRate_47 : decode cX1_putRate 47 = .ok (.aload_n 0, 1) := by decide +kernel
theorem dX1_putRate_48 : decode cX1_putRate 48 = .ok (.getfield 21, 3) := by decide +kernel
theorem dX1_putRate_51 : decode cX1_putRate 51 = .ok (.iload_n 1, 1) := by decide +kernel
theorem dX1_putRate_52 : decode cX1_putRate 52 = .ok (.iaload, 1) := by decide +kernel
theorem dX1_putRate_53 : decode cX1_putRate 53 = .ok (.i2l, 1) := by decide +kernel
theorem dX1_putRate_54 : decode cX1_putRate 54 = .ok (.lmul, 1) := by decide +kernel
theorem dX1_putRate_55 : decode cX1_putRate 55 = .ok (.aload_n 3, 1) := by decide +kernel
theorem dX1_putRate_56 : decode cX1_putRate 56 = .ok (.getfield 168, 3) := by decide +kernel
theorem dX1_putRate_59 : decode cX1_putRate 59 = .ok (.lmul, 1) := by decide +kernel
theorem dX1_putRate_60 : decode cX1_putRate 60 = .ok (.ldc2_w 172, 3) := by decide +kernel
theorem dX1_putRate_63 : decode cX1_putRate 63 = .ok (.lload 4, 2) := by decide +kernel
theorem dX1_putRate_65 : decode cX1_putRate 65 = .ok (.lsub, 1) := by decide +kernel
theorem dX1_putRate_66 : decode cX1_putRate 66 = .ok (.aload_n 3, 1) := by decide +kernel
theorem dX1_putRate_67 : decode cX1_putRate 67 = .ok (.getfield 174, 3) := by decide +kernel
theorem dX1_putRate_70 : decode cX1_putRate 70 = .ok (.lmul, 1) := by decide +kernel
theorem dX1_putRate_71 : decode cX1_putRate 71 = .ok (.lload 6, 2) := by decide +kernel
theorem dX1_putRate_73 : decode cX1_putRate 73 = .ok (.lmul, 1) := by decide +kernel
theorem dX1_putRate_74 : decode cX1_putRate 74 = .ok (.ladd, 1) := by decide +kernel
theorem dX1_putRate_75 : decode cX1_putRate 75 = .ok (.ldc2_w 172, 3) := by decide +kernel
theorem dX1_putRate_78 : decode cX1_putRate 78 = .ok (.lload 6, 2) := by decide +kernel
theorem dX1_putRate_80 : decode cX1_putRate 80 = .ok (.lmul, 1) := by decide +kernel
theorem dX1_putRate_81 : decode cX1_putRate 81 = .ok (.aload_n 3, 1) := by decide +kernel
theorem dX1_putRate_82 : decode cX1_putRate 82 = .ok (.getfield 168, 3) := by decide +kernel
theorem dX1_putRate_85 : decode cX1_putRate 85 = .ok (.lmul, 1) := by decide +kernel
theorem dX1_putRate_86 : decode cX1_putRate 86 = .ok (.invokevirtual 155, 3) := by decide +kernel
theorem dX1_putRate_89 : decode cX1_putRate 89 = .ok (.return_, 1) := by decide +kernel
theorem dX1_rateCut_0 : decode cX1_rateCut 0 = .ok (.aload_n 0, 1) := by decide +kernel
theorem dX1_rateCut_1 : decode cX1_rateCut 1 = .ok (.iload_n 1, 1) := by decide +kernel
theorem dX1_rateCut_2 : decode cX1_rateCut 2 = .ok (.aload_n 0, 1) := by decide +kernel
theorem dX1_rateCut_3 : decode cX1_rateCut 3 = .ok (.getfield 46, 3) := by decide +kernel
theorem dX1_rateCut_6 : decode cX1_rateCut 6 = .ok (.invokevirtual 177, 3) := by decide +kernel
theorem dX1_rateCut_9 : decode cX1_rateCut 9 = .ok (.aload_n 0, 1) := by decide +kernel
theorem dX1_rateCut_10 : decode cX1_rateCut 10 = .ok (.getfield 46, 3) := by decide +kernel
theorem dX1_rateCut_13 : decode cX1_rateCut 13 = .ok (.invokevirtual 180, 3) := by decide +kernel
theorem dX1_rateCut_16 : decode cX1_rateCut 16 = .ok (.ireturn, 1) := by decide +kernel
theorem dX1_putSpread_0 : decode cX1_putSpread 0 = .ok (.aload_n 0, 1) := by decide +kernel
theorem dX1_putSpread_1 : decode cX1_putSpread 1 = .ok (.iload_n 1, 1) := by decide +kernel
theorem dX1_putSpread_2 : decode cX1_putSpread 2 = .ok (.invokevirtual 138, 3) := by decide +kernel
theorem dX1_putSpread_5 : decode cX1_putSpread 5 = .ok (.astore 4, 2) := by decide +kernel
theorem dX1_putSpread_7 : decode cX1_putSpread 7 = .ok (.iload_n 2, 1) := by decide +kernel
theorem dX1_putSpread_8 : decode cX1_putSpread 8 = .ok (.tableswitch 95 0 4 #[36, 45, 54, 63, 86], 36) := by decide +kernel
theorem dX1_putSpread_44 : decode cX1_putSpread 44 = .ok (.aload 4, 2) := by decide +kernel
theorem dX1_putSpread_46 : decode cX1_putSpread 46 = .ok (.aload_n 3, 1) := by decide +kernel
theorem dX1_putSpread_47 : decode cX1_putSpread 47 = .ok (.invokevirtual 184, 3) := by decide +kernel
theorem dX1_putSpread_50 : decode cX1_putSpread 50 = .ok (.goto 57, 3) := by decide +kernel
theorem dX1_putSpread_53 : decode cX1_putSpread 53 = .ok (.aload 4, 2) := by decide +kernel
theorem dX1_putSpread_55 : decode cX1_putSpread 55 = .ok (.aload_n 3, 1) := by decide +kernel
theorem dX1_putSpread_56 : decode cX1_putSpread 56 = .ok (.invokevirtual 187, 3) := by decide +kernel
theorem dX1_putSpread_59 : decode cX1_putSpread 59 = .ok (.goto 48, 3) := by decide +kernel
theorem dX1_putSpread_62 : decode cX1_putSpread 62 = .ok (.aload 4, 2) := by decide +kernel
theorem dX1_putSpread_64 : decode cX1_putSpread 64 = .ok (.aload_n 3, 1) := by decide +kernel
theorem dX1_putSpread_65 : decode cX1_putSpread 65 = .ok (.invokevirtual 190, 3) := by decide +kernel
theorem dX1_putSpread_68 : decode cX1_putSpread 68 = .ok (.goto 39, 3) := by decide +kernel
theorem dX1_putSpread_71 : decode cX1_putSpread 71 = .ok (.aload_n 3, 1) := by decide +kernel
theorem dX1_putSpread_72 : decode cX1_putSpread 72 = .ok (.aload 4, 2) := by decide +kernel
theorem dX1_putSpread_74 : decode cX1_putSpread 74 = .ok (.getfield 165, 3) := by decide +kernel
theorem dX1_putSpread_77 : decode cX1_putSpread 77 = .ok (.getfield 174, 3) := by decide +kernel
theorem dX1_putSpread_80 : decode cX1_putSpread 80 = .ok (.aload 4, 2) := by decide +kernel
theorem dX1_putSpread_82 : decode cX1_putSpread 82 = .ok (.getfield 165, 3) := by decide +kernel
theorem dX1_putSpread_85 : decode cX1_putSpread 85 = .ok (.getfield 168, 3) := by decide +kernel
theorem dX1_putSpread_88 : decode cX1_putSpread 88 = .ok (.invokevirtual 155, 3) := by decide +kernel
theorem dX1_putSpread_91 : decode cX1_putSpread 91 = .ok (.goto 16, 3) := by decide +kernel
theorem dX1_putSpread_94 : decode cX1_putSpread 94 = .ok (.aload 4, 2) := by decide +kernel
theorem dX1_putSpread_96 : decode cX1_putSpread 96 = .ok (.aload_n 3, 1) := by decide +kernel
theorem dX1_putSpread_97 : decode cX1_putSpread 97 = .ok (.invokevirtual 193, 3) := by decide +kernel
theorem dX1_putSpread_100 : decode cX1_putSpread 100 = .ok (.goto 7, 3) := by decide +kernel
theorem dX1_putSpread_103 : decode cX1_putSpread 103 = .ok (.aload_n 3, 1) := by decide +kernel
theorem dX1_putSpread_104 : decode cX1_putSpread 104 = .ok (.invokevirtual 159, 3) := by decide +kernel
theorem dX1_putSpread_107 : decode cX1_putSpread 107 = .ok (.return_, 1) := by decide +kernel
theorem dX1_compareRates_0 : decode cX1_compareRates 0 = .ok (.aload_n 0, 1) := by decide +kernel
theorem dX1_compareRates_1 : decode cX1_compareRates 1 = .ok (.iload_n 1, 1) := by decide +kernel
theorem dX1_compareRates_2 : decode cX1_compareRates 2 = .ok (.aload_n 0, 1) := by decide +kernel
theorem dX1_compareRates_3 : decode cX1_compareRates 3 = .ok (.getfield 46, 3) := by decide +kernel
theorem dX1_compareRates_6 : decode cX1_compareRates 6 = .ok (.invokevirtual 177, 3) := by decide +kernel
theorem dX1_compareRates_9 : decode cX1_compareRates 9 = .ok (.aload_n 0, 1) := by decide +kernel
theorem dX1_compareRates_10 : decode cX1_compareRates 10 = .ok (.iload_n 2, 1) := by decide +kernel
theorem dX1_compareRates_11 : decode cX1_compareRates 11 = .ok (.aload_n 0, 1) := by decide +kernel
theorem dX1_compareRates_12 : decode cX1_compareRates 12 = .ok (.getfield 50, 3) := by decide +kernel
theorem dX1_compareRates_15 : decode cX1_compareRates 15 = .ok (.invokevirtual 177, 3) := by decide +kernel
theorem dX1_compareRates_18 : decode cX1_compareRates 18 = .ok (.aload_n 0, 1) := by decide +kernel
theorem dX1_compareRates_19 : decode cX1_compareRates 19 = .ok (.getfield 46, 3) := by decide +kernel
theorem dX1_compareRates_22 : decode cX1_compareRates 22 = .ok (.aload_n 0, 1) := by decide +kernel
theorem dX1_compareRates_23 : decode cX1_compareRates 23 = .ok (.getfield 50, 3) := by decide +kernel
theorem dX1_compareRates_26 : decode cX1_compareRates 26 = .ok (.invokevirtual 196, 3) := by decide +kernel
theorem dX1_compareRates_29 : decode cX1_compareRates 29 = .ok (.ireturn, 1) := by decide +kernel
theorem dX1_placeOf_0 : decode cX1_placeOf 0 = .ok (.iconst 0, 1) := by decide +kernel
theorem dX1_placeOf_1 : decode cX1_placeOf 1 = .ok (.istore_n 2, 1) := by decide +kernel
theorem dX1_placeOf_2 : decode cX1_placeOf 2 = .ok (.iconst 0, 1) := by decide +kernel
theorem dX1_placeOf_3 : decode cX1_placeOf 3 = .ok (.istore_n 3, 1) := by decide +kernel
theorem dX1_placeOf_4 : decode cX1_placeOf 4 = .ok (.iload_n 3, 1) := by decide +kernel
theorem dX1_placeOf_5 : decode cX1_placeOf 5 = .ok (.aload_n 0, 1) := by decide +kernel
theorem dX1_placeOf_6 : decode cX1_placeOf 6 = .ok (.getfield 65, 3) := by decide +kernel
theorem dX1_placeOf_9 : decode cX1_placeOf 9 = .ok (.if_icmp .ge 53, 3) := by decide +kernel
theorem dX1_placeOf_12 : decode cX1_placeOf 12 = .ok (.iload_n 3, 1) := by decide +kernel
theorem dX1_placeOf_13 : decode cX1_placeOf 13 = .ok (.iload_n 1, 1) := by decide +kernel
theorem dX1_placeOf_14 : decode cX1_placeOf 14 = .ok (.if_icmp .eq 42, 3) := by decide +kernel
theorem dX1_placeOf_17 : decode cX1_placeOf 17 = .ok (.aload_n 0, 1) := by decide +kernel
theorem dX1_placeOf_18 : decode cX1_placeOf 18 = .ok (.iload_n 3, 1) := by decide +kernel
theorem dX1_placeOf_19 : decode cX1_placeOf 19 = .ok (.invokevirtual 162, 3) := by decide +kernel
theorem dX1_placeOf_22 : decode cX1_placeOf 22 = .ok (.ifCond .eq 34, 3) := by decide +kernel
theorem dX1_placeOf_25 : decode cX1_placeOf 25 = .ok (.aload_n 0, 1) := by decide +kernel
theorem dX1_placeOf_26 : decode cX1_placeOf 26 = .ok (.iload_n 3, 1) := by decide +kernel
theorem dX1_placeOf_27 : decode cX1_placeOf 27 = .ok (.iload_n 1, 1) := by decide +kernel
theorem dX1_placeOf_28 : decode cX1_placeOf 28 = .ok (.invokevirtual 200, 3) := by decide +kernel
theorem dX1_placeOf_31 : decode cX1_placeOf 31 = .ok (.istore 4, 2) := by decide +kernel
theorem dX1_placeOf_33 : decode cX1_placeOf 33 = .ok (.iload_n 2, 1) := by decide +kernel
theorem dX1_placeOf_34 : decode cX1_placeOf 34 = .ok (.iload 4, 2) := by decide +kernel
theorem dX1_placeOf_36 : decode cX1_placeOf 36 = .ok (.ifCond .gt 13, 3) := by decide +kernel
theorem dX1_placeOf_39 : decode cX1_placeOf 39 = .ok (.iload 4, 2) := by decide +kernel
theorem dX1_placeOf_41 : decode cX1_placeOf 41 = .ok (.ifCond .ne 12, 3) := by decide +kernel
theorem dX1_placeOf_44 : decode cX1_placeOf 44 = .ok (.iload_n 3, 1) := by decide +kernel
theorem dX1_placeOf_45 : decode cX1_placeOf 45 = .ok (.iload_n 1, 1) := by decide +kernel
theorem dX1_placeOf_46 : decode cX1_placeOf 46 = .ok (.if_icmp .ge 7, 3) := by decide +kernel
theorem dX1_placeOf_49 : decode cX1_placeOf 49 = .ok (.iconst 1, 1) := by decide +kernel
theorem dX1_placeOf_50 : decode cX1_placeOf 50 = .ok (.goto 4, 3) := by decide +kernel
theorem dX1_placeOf_53 : decode cX1_placeOf 53 = .ok (.iconst 0, 1) := by decide +kernel
theorem dX1_placeOf_54 : decode cX1_placeOf 54 = .ok (.iadd, 1) := by decide +kernel
theorem dX1_placeOf_55 : decode cX1_placeOf 55 = .ok (.istore_n 2, 1) := by decide +kernel
theorem dX1_placeOf_56 : decode cX1_placeOf 56 = .ok (.iinc 3 1, 3) := by decide +kernel
theorem dX1_placeOf_59 : decode cX1_placeOf 59 = .ok (.goto (-55), 3) := by decide +kernel
theorem dX1_placeOf_62 : decode cX1_placeOf 62 = .ok (.iload_n 2, 1) := by decide +kernel
theorem dX1_placeOf_63 : decode cX1_placeOf 63 = .ok (.ireturn, 1) := by decide +kernel
theorem dX2_init_0 : decode cX2_init 0 = .ok (.aload_n 0, 1) := by decide +kernel
theorem dX2_init_1 : decode cX2_init 1 = .ok (.invokespecial 3, 3) := by decide +kernel
theorem dX2_init_4 : decode cX2_init 4 = .ok (.aload_n 0, 1) := by decide +kernel
theorem dX2_init_5 : decode cX2_init 5 = .ok (.sipush 720, 3) := by decide +kernel
theorem dX2_init_8 : decode cX2_init 8 = .ok (.newarray .int, 2) := by decide +kernel
theorem dX2_init_10 : decode cX2_init 10 = .ok (.putfield 11, 3) := by decide +kernel
theorem dX2_init_13 : decode cX2_init 13 = .ok (.return_, 1) := by decide +kernel
theorem dX2_size_0 : decode cX2_size 0 = .ok (.aload_n 0, 1) := by decide +kernel
theorem dX2_size_1 : decode cX2_size 1 = .ok (.getfield 17, 3) := by decide +kernel
theorem dX2_size_4 : decode cX2_size 4 = .ok (.ireturn, 1) := by decide +kernel
theorem dX2_empty_0 : decode cX2_empty 0 = .ok (.aload_n 0, 1) := by decide +kernel
theorem dX2_empty_1 : decode cX2_empty 1 = .ok (.iconst 0, 1) := by decide +kernel
theorem dX2_empty_2 : decode cX2_empty 2 = .ok (.putfield 17, 3) := by decide +kernel
theorem dX2_empty_5 : decode cX2_empty 5 = .ok (.return_, 1) := by decide +kernel
theorem dX2_keep_0 : decode cX2_keep 0 = .ok (.aload_n 1, 1) := by decide +kernel
theorem dX2_keep_1 : decode cX2_keep 1 = .ok (.aload_n 0, 1) := by decide +kernel
theorem dX2_keep_2 : decode cX2_keep 2 = .ok (.getfield 11, 3) := by decide +kernel
theorem dX2_keep_5 : decode cX2_keep 5 = .ok (.aload_n 0, 1) := by decide +kernel
theorem dX2_keep_6 : decode cX2_keep 6 = .ok (.getfield 21, 3) := by decide +kernel
theorem dX2_keep_9 : decode cX2_keep 9 = .ok (.bipush 60, 2) := by decide +kernel
theorem dX2_keep_11 : decode cX2_keep 11 = .ok (.imul, 1) := by decide +kernel
theorem dX2_keep_12 : decode cX2_keep 12 = .ok (.invokevirtual 24, 3) := by decide +kernel
theorem dX2_keep_15 : decode cX2_keep 15 = .ok (.aload_n 0, 1) := by decide +kernel
theorem dX2_keep_16 : decode cX2_keep 16 = .ok (.aload_n 0, 1) := by decide +kernel
theorem dX2_keep_17 : decode cX2_keep 17 = .ok (.getfield 21, 3) := by decide +kernel
theorem dX2_keep_20 : decode cX2_keep 20 = .ok (.iconst 1, 1) := by decide +kernel
theorem dX2_keep_21 : decode cX2_keep 21 = .ok (.iadd, 1) := by decide +kernel
theorem dX2_keep_22 : decode cX2_keep 22 = .ok (.bipush 12, 2) := by decide +kernel
theorem dX2_keep_24 : decode cX2_keep 24 = .ok (.irem, 1) := by decide +kernel
theorem dX2_keep_25 : decode cX2_keep 25 = .ok (.putfield 21, 3) := by decide +kernel
theorem dX2_keep_28 : decode cX2_keep 28 = .ok (.aload_n 0, 1) := by decide +kernel
theorem dX2_keep_29 : decode cX2_keep 29 = .ok (.aload_n 0, 1) := by decide +kernel
theorem dX2_keep_30 : decode cX2_keep 30 = .ok (.getfield 17, 3) := by decide +kernel
theorem dX2_keep_33 : decode cX2_keep 33 = .ok (.iconst 1, 1) := by decide +kernel
theorem dX2_keep_34 : decode cX2_keep 34 = .ok (.iadd, 1) := by decide +kernel
theorem dX2_keep_35 : decode cX2_keep 35 = .ok (.bipush 12, 2) := by decide +kernel
theorem dX2_keep_37 : decode cX2_keep 37 = .ok (.invokestatic 28, 3) := by decide +kernel
theorem dX2_keep_40 : decode cX2_keep 40 = .ok (.putfield 17, 3) := by decide +kernel
theorem dX2_keep_43 : decode cX2_keep 43 = .ok (.return_, 1) := by decide +kernel
theorem dX2_takeBack_0 : decode cX2_takeBack 0 = .ok (.aload_n 0, 1) := by decide +kernel
theorem dX2_takeBack_1 : decode cX2_takeBack 1 = .ok (.getfield 17, 3) := by decide +kernel
theorem dX2_takeBack_4 : decode cX2_takeBack 4 = .ok (.ifCond .le 44, 3) := by decide +kernel
theorem dX2_takeBack_7 : decode cX2_takeBack 7 = .ok (.aload_n 0, 1) := by decide +kernel
theorem dX2_takeBack_8 : decode cX2_takeBack 8 = .ok (.aload_n 0, 1) := by decide +kernel
theorem dX2_takeBack_9 : decode cX2_takeBack 9 = .ok (.getfield 21, 3) := by decide +kernel
theorem dX2_takeBack_12 : decode cX2_takeBack 12 = .ok (.bipush 12, 2) := by decide +kernel
theorem dX2_takeBack_14 : decode cX2_takeBack 14 = .ok (.iadd, 1) := by decide +kernel
theorem dX2_takeBack_15 : decode cX2_takeBack 15 = .ok (.iconst 1, 1) := by decide +kernel
theorem dX2_takeBack_16 : decode cX2_takeBack 16 = .ok (.isub, 1) := by decide +kernel
theorem dX2_takeBack_17 : decode cX2_takeBack 17 = .ok (.bipush 12, 2) := by decide +kernel
theorem dX2_takeBack_19 : decode cX2_takeBack 19 = .ok (.irem, 1) := by decide +kernel
theorem dX2_takeBack_20 : decode cX2_takeBack 20 = .ok (.putfield 21, 3) := by decide +kernel
theorem dX2_takeBack_23 : decode cX2_takeBack 23 = .ok (.aload_n 0, 1) := by decide +kernel
theorem dX2_takeBack_24 : decode cX2_takeBack 24 = .ok (.dup, 1) := by decide +kernel
theorem dX2_takeBack_25 : decode cX2_takeBack 25 = .ok (.getfield 17, 3) := by decide +kernel
theorem dX2_takeBack_28 : decode cX2_takeBack 28 = .ok (.iconst 1, 1) := by decide +kernel
theorem dX2_takeBack_29 : decode cX2_takeBack 29 = .ok (.isub, 1) := by decide +kernel
theorem dX2_takeBack_30 : decode cX2_takeBack 30 = .ok (.putfield 17, 3) := by decide +kernel
theorem dX2_takeBack_33 : decode cX2_takeBack 33 = .ok (.aload_n 1, 1) := by decide +kernel
theorem dX2_takeBack_34 : decode cX2_takeBack 34 = .ok (.aload_n 0, 1) := by decide +kernel
theorem dX2_takeBack_35 : decode cX2_takeBack 35 = .ok (.getfield 11, 3) := by decide +kernel
theorem dX2_takeBack_38 : decode cX2_takeBack 38 = .ok (.aload_n 0, 1) := by decide +kernel
theorem dX2_takeBack_39 : decode cX2_takeBack 39 = .ok (.getfield 21, 3) := by decide +kernel
theorem dX2_takeBack_42 : decode cX2_takeBack 42 = .ok (.bipush 60, 2) := by decide +kernel
theorem dX2_takeBack_44 : decode cX2_takeBack 44 = .ok (.imul, 1) := by decide +kernel
theorem dX2_takeBack_45 : decode cX2_takeBack 45 = .ok (.invokevirtual 34, 3) := by decide +kernel
theorem dX2_takeBack_48 : decode cX2_takeBack 48 = .ok (.return_, 1) := by decide +kernel
theorem dX3_init_0 : decode cX3_init 0 = .ok (.aload_n 0, 1) := by decide +kernel
theorem dX3_init_1 : decode cX3_init 1 = .ok (.invokespecial 3, 3) := by decide +kernel
theorem dX3_init_4 : decode cX3_init 4 = .ok (.return_, 1) := by decide +kernel
theorem dX3_begin_0 : decode cX3_begin 0 = .ok (.aload_n 0, 1) := by decide +kernel
theorem dX3_begin_1 : decode cX3_begin 1 = .ok (.iload_n 1, 1) := by decide +kernel
theorem dX3_begin_2 : decode cX3_begin 2 = .ok (.putfield 9, 3) := by decide +kernel
theorem dX3_begin_5 : decode cX3_begin 5 = .ok (.aload_n 0, 1) := by decide +kernel
theorem dX3_begin_6 : decode cX3_begin 6 = .ok (.iconst 0, 1) := by decide +kernel
theorem dX3_begin_7 : decode cX3_begin 7 = .ok (.putfield 15, 3) := by decide +kernel
theorem dX3_begin_10 : decode cX3_begin 10 = .ok (.aload_n 0, 1) := by decide +kernel
theorem dX3_begin_11 : decode cX3_begin 11 = .ok (.bipush (-2), 2) := by decide +kernel
theorem dX3_begin_13 : decode cX3_begin 13 = .ok (.putfield 18, 3) := by decide +kernel
theorem dX3_begin_16 : decode cX3_begin 16 = .ok (.return_, 1) := by decide +kernel
theorem dX3_writeByte_0 : decode cX3_writeByte 0 = .ok (.aload_n 0, 1) := by decide +kernel
theorem dX3_writeByte_1 : decode cX3_writeByte 1 = .ok (.getfield 15, 3) := by decide +kernel
theorem dX3_writeByte_4 : decode cX3_writeByte 4 = .ok (.aload_n 0, 1) := by decide +kernel
theorem dX3_writeByte_5 : decode cX3_writeByte 5 = .ok (.getfield 9, 3) := by decide +kernel
theorem dX3_writeByte_8 : decode cX3_writeByte 8 = .ok (.if_icmp .ne 8, 3) := by decide +kernel
theorem dX3_writeByte_11 : decode cX3_writeByte 11 = .ok (.aload_n 0, 1) := by decide +kernel
theorem dX3_writeByte_12 : decode cX3_writeByte 12 = .ok (.iload_n 1, 1) := by decide +kernel
theorem dX3_writeByte_13 : decode cX3_writeByte 13 = .ok (.putfield 18, 3) := by decide +kernel
theorem dX3_writeByte_16 : decode cX3_writeByte 16 = .ok (.aload_n 0, 1) := by decide +kernel
theorem dX3_writeByte_17 : decode cX3_writeByte 17 = .ok (.dup, 1) := by decide +kernel
theorem dX3_writeByte_18 : decode cX3_writeByte 18 = .ok (.getfield 15, 3) := by decide +kernel
theorem dX3_writeByte_21 : decode cX3_writeByte 21 = .ok (.iconst 1, 1) := by decide +kernel
theorem dX3_writeByte_22 : decode cX3_writeByte 22 = .ok (.iadd, 1) := by decide +kernel
theorem dX3_writeByte_23 : decode cX3_writeByte 23 = .ok (.putfield 15, 3) := by decide +kernel
theorem dX3_writeByte_26 : decode cX3_writeByte 26 = .ok (.return_, 1) := by decide +kernel
theorem dX3_writeNamed_0 : decode cX3_writeNamed 0 = .ok (.iconst 0, 1) := by decide +kernel
theorem dX3_writeNamed_1 : decode cX3_writeNamed 1 = .ok (.istore_n 3, 1) := by decide +kernel
theorem dX3_writeNamed_2 : decode cX3_writeNamed 2 = .ok (.iload_n 3, 1) := by decide +kernel
theorem dX3_writeNamed_3 : decode cX3_writeNamed 3 = .ok (.aload_n 1, 1) := by decide +kernel
theorem dX3_writeNamed_4 : decode cX3_writeNamed 4 = .ok (.invokevirtual 21, 3) := by decide +kernel
theorem dX3_writeNamed_7 : decode cX3_writeNamed 7 = .ok (.if_icmp .ge 18, 3) := by decide +kernel
theorem dX3_writeNamed_10 : decode cX3_writeNamed 10 = .ok (.aload_n 0, 1) := by decide +kernel
theorem dX3_writeNamed_11 : decode cX3_writeNamed 11 = .ok (.aload_n 1, 1) := by decide +kernel
theorem dX3_writeNamed_12 : decode cX3_writeNamed 12 = .ok (.iload_n 3, 1) := by decide +kernel
theorem dX3_writeNamed_13 : decode cX3_writeNamed 13 = .ok (.invokevirtual 27, 3) := by decide +kernel
theorem dX3_writeNamed_16 : decode cX3_writeNamed 16 = .ok (.invokevirtual 31, 3) := by decide +kernel
theorem dX3_writeNamed_19 : decode cX3_writeNamed 19 = .ok (.iinc 3 1, 3) := by decide +kernel
theorem dX3_writeNamed_22 : decode cX3_writeNamed 22 = .ok (.goto (-20), 3) := by decide +kernel
theorem dX3_writeNamed_25 : decode cX3_writeNamed 25 = .ok (.aload_n 0, 1) := by decide +kernel
theorem dX3_writeNamed_26 : decode cX3_writeNamed 26 = .ok (.iload_n 2, 1) := by decide +kernel
theorem dX3_writeNamed_27 : decode cX3_writeNamed 27 = .ok (.invokevirtual 35, 3) := by decide +kernel
theorem dX3_writeNamed_30 : decode cX3_writeNamed 30 = .ok (.return_, 1) := by decide +kernel
theorem dX3_writeBehind_0 : decode cX3_writeBehind 0 = .ok (.aload_n 0, 1) := by decide +kernel
theorem dX3_writeBehind_1 : decode cX3_writeBehind 1 = .ok (.bipush 32, 2) := by decide +kernel
theorem dX3_writeBehind_3 : decode cX3_writeBehind 3 = .ok (.invokevirtual 31, 3) := by decide +kernel
theorem dX3_writeBehind_6 : decode cX3_writeBehind 6 = .ok (.iconst 0, 1) := by decide +kernel
theorem dX3_writeBehind_7 : decode cX3_writeBehind 7 = .ok (.istore_n 2, 1) := by decide +kernel
theorem dX3_writeBehind_8 : decode cX3_writeBehind 8 = .ok (.ldc 38, 2) := by decide +kernel
theorem dX3_writeBehind_10 : decode cX3_writeBehind 10 = .ok (.istore_n 3, 1) := by decide +kernel
theorem dX3_writeBehind_11 : decode cX3_writeBehind 11 = .ok (.iload_n 3, 1) := by decide +kernel
theorem dX3_writeBehind_12 : decode cX3_writeBehind 12 = .ok (.ifCond .le 52, 3) := by decide +kernel
theorem dX3_writeBehind_15 : decode cX3_writeBehind 15 = .ok (.iload_n 1, 1) := by decide +kernel
theorem dX3_writeBehind_16 : decode cX3_writeBehind 16 = .ok (.iload_n 3, 1) := by decide +kernel
theorem dX3_writeBehind_17 : decode cX3_writeBehind 17 = .ok (.idiv, 1) := by decide +kernel
theorem dX3_writeBehind_18 : decode cX3_writeBehind 18 = .ok (.bipush 10, 2) := by decide +kernel
theorem dX3_writeBehind_20 : decode cX3_writeBehind 20 = .ok (.irem, 1) := by decide +kernel
theorem dX3_writeBehind_21 : decode cX3_writeBehind 21 = .ok (.istore 4, 2) := by decide +kernel
theorem dX3_writeBehind_23 : decode cX3_writeBehind 23 = .ok (.iload_n 2, 1) := by decide +kernel
theorem dX3_writeBehind_24 : decode cX3_writeBehind 24 = .ok (.ifCond .ne 13, 3) := by decide +kernel
theorem dX3_writeBehind_27 : decode cX3_writeBehind 27 = .ok (.iload 4, 2) := by decide +kernel
theorem dX3_writeBehind_29 : decode cX3_writeBehind 29 = .ok (.ifCond .gt 8, 3) := by decide +kernel
theorem dX3_writeBehind_32 : decode cX3_writeBehind 32 = .ok (.iload_n 3, 1) := by decide +kernel
theorem dX3_writeBehind_33 : decode cX3_writeBehind 33 = .ok (.iconst 1, 1) := by decide +kernel
theorem dX3_writeBehind_34 : decode cX3_writeBehind 34 = .ok (.if_icmp .ne 7, 3) := by decide +kernel
theorem dX3_writeBehind_37 : decode cX3_writeBehind 37 = .ok (.iconst 1, 1) := by decide +kernel
theorem dX3_writeBehind_38 : decode cX3_writeBehind 38 = .ok (.goto 4, 3) := by decide +kernel
theorem dX3_writeBehind_41 : decode cX3_writeBehind 41 = .ok (.iconst 0, 1) := by decide +kernel
theorem dX3_writeBehind_42 : decode cX3_writeBehind 42 = .ok (.istore_n 2, 1) := by decide +kernel
theorem dX3_writeBehind_43 : decode cX3_writeBehind 43 = .ok (.iload_n 2, 1) := by decide +kernel
theorem dX3_writeBehind_44 : decode cX3_writeBehind 44 = .ok (.ifCond .eq 12, 3) := by decide +kernel
theorem dX3_writeBehind_47 : decode cX3_writeBehind 47 = .ok (.aload_n 0, 1) := by decide +kernel
theorem dX3_writeBehind_48 : decode cX3_writeBehind 48 = .ok (.bipush 48, 2) := by decide +kernel
theorem dX3_writeBehind_50 : decode cX3_writeBehind 50 = .ok (.iload 4, 2) := by decide +kernel
theorem dX3_writeBehind_52 : decode cX3_writeBehind 52 = .ok (.iadd, 1) := by decide +kernel
theorem dX3_writeBehind_53 : decode cX3_writeBehind 53 = .ok (.invokevirtual 31, 3) := by decide +kernel
theorem dX3_writeBehind_56 : decode cX3_writeBehind 56 = .ok (.iload_n 3, 1) := by decide +kernel
theorem dX3_writeBehind_57 : decode cX3_writeBehind 57 = .ok (.bipush 10, 2) := by decide +kernel
theorem dX3_writeBehind_59 : decode cX3_writeBehind 59 = .ok (.idiv, 1) := by decide +kernel
theorem dX3_writeBehind_60 : decode cX3_writeBehind 60 = .ok (.istore_n 3, 1) := by decide +kernel
theorem dX3_writeBehind_61 : decode cX3_writeBehind 61 = .ok (.goto (-50), 3) := by decide +kernel
theorem dX3_writeBehind_64 : decode cX3_writeBehind 64 = .ok (.return_, 1) := by decide +kernel
theorem dX3_writeEnd_0 : decode cX3_writeEnd 0 = .ok (.aload_n 0, 1) := by decide +kernel
theorem dX3_writeEnd_1 : decode cX3_writeEnd 1 = .ok (.bipush 59, 2) := by decide +kernel
theorem dX3_writeEnd_3 : decode cX3_writeEnd 3 = .ok (.invokevirtual 31, 3) := by decide +kernel
theorem dX3_writeEnd_6 : decode cX3_writeEnd 6 = .ok (.return_, 1) := by decide +kernel
theorem dX3_answer_0 : decode cX3_answer 0 = .ok (.aload_n 0, 1) := by decide +kernel
theorem dX3_answer_1 : decode cX3_answer 1 = .ok (.getfield 9, 3) := by decide +kernel
theorem dX3_answer_4 : decode cX3_answer 4 = .ok (.iconst (-1), 1) := by decide +kernel
theorem dX3_answer_5 : decode cX3_answer 5 = .ok (.if_icmp .ne 10, 3) := by decide +kernel
theorem dX3_answer_8 : decode cX3_answer 8 = .ok (.aload_n 0, 1) := by decide +kernel
theorem dX3_answer_9 : decode cX3_answer 9 = .ok (.getfield 15, 3) := by decide +kernel
theorem dX3_answer_12 : decode cX3_answer 12 = .ok (.goto 7, 3) := by decide +kernel
theorem dX3_answer_15 : decode cX3_answer 15 = .ok (.aload_n 0, 1) := by decide +kernel
theorem dX3_answer_16 : decode cX3_answer 16 = .ok (.getfield 18, 3) := by decide +kernel
theorem dX3_answer_19 : decode cX3_answer 19 = .ok (.ireturn, 1) := by decide +kernel
theorem dX4_init_0 : decode cX4_init 0 = .ok (.aload_n 0, 1) := by decide +kernel
theorem dX4_init_1 : decode cX4_init 1 = .ok (.invokespecial 3, 3) := by decide +kernel
theorem dX4_init_4 : decode cX4_init 4 = .ok (.aload_n 0, 1) := by decide +kernel
theorem dX4_init_5 : decode cX4_init 5 = .ok (.new 9, 3) := by decide +kernel
theorem dX4_init_8 : decode cX4_init 8 = .ok (.dup, 1) := by decide +kernel
theorem dX4_init_9 : decode cX4_init 9 = .ok (.invokespecial 11, 3) := by decide +kernel
theorem dX4_init_12 : decode cX4_init 12 = .ok (.putfield 12, 3) := by decide +kernel
theorem dX4_init_15 : decode cX4_init 15 = .ok (.return_, 1) := by decide +kernel
theorem dX4_clear_0 : decode cX4_clear 0 = .ok (.aload_n 0, 1) := by decide +kernel
theorem dX4_clear_1 : decode cX4_clear 1 = .ok (.iconst 0, 1) := by decide +kernel
theorem dX4_clear_2 : decode cX4_clear 2 = .ok (.putfield 18, 3) := by decide +kernel
theorem dX4_clear_5 : decode cX4_clear 5 = .ok (.aload_n 0, 1) := by decide +kernel
theorem dX4_clear_6 : decode cX4_clear 6 = .ok (.iconst 0, 1) := by decide +kernel
theorem dX4_clear_7 : decode cX4_clear 7 = .ok (.putfield 22, 3) := by decide +kernel
theorem dX4_clear_10 : decode cX4_clear 10 = .ok (.aload_n 0, 1) := by decide +kernel
theorem dX4_clear_11 : decode cX4_clear 11 = .ok (.iconst 0, 1) := by decide +kernel
theorem dX4_clear_12 : decode cX4_clear 12 = .ok (.putfield 25, 3) := by decide +kernel
theorem dX4_clear_15 : decode cX4_clear 15 = .ok (.aload_n 0, 1) := by decide +kernel
theorem dX4_clear_16 : decode cX4_clear 16 = .ok (.iconst 0, 1) := by decide +kernel
theorem dX4_clear_17 : decode cX4_clear 17 = .ok (.putfield 28, 3) := by decide +kernel
theorem dX4_clear_20 : decode cX4_clear 20 = .ok (.aload_n 0, 1) := by decide +kernel
theorem dX4_clear_21 : decode cX4_clear 21 = .ok (.lconst 0, 1) := by decide +kernel
theorem dX4_clear_22 : decode cX4_clear 22 = .ok (.putfield 31, 3) := by decide +kernel
theorem dX4_clear_25 : decode cX4_clear 25 = .ok (.aload_n 0, 1) := by decide +kernel
theorem dX4_clear_26 : decode cX4_clear 26 = .ok (.lconst 0, 1) := by decide +kernel
theorem dX4_clear_27 : decode cX4_clear 27 = .ok (.putfield 35, 3) := by decide +kernel
theorem dX4_clear_30 : decode cX4_clear 30 = .ok (.aload_n 0, 1) := by decide +kernel
theorem dX4_clear_31 : decode cX4_clear 31 = .ok (.lconst 0, 1) := by decide +kernel
theorem dX4_clear_32 : decode cX4_clear 32 = .ok (.putfield 38, 3) := by decide +kernel
theorem dX4_clear_35 : decode cX4_clear 35 = .ok (.aload_n 0, 1) := by decide +kernel
theorem dX4_clear_36 : decode cX4_clear 36 = .ok (.lconst 0, 1) := by decide +kernel
theorem dX4_clear_37 : decode cX4_clear 37 = .ok (.putfield 41, 3) := by decide +kernel
theorem dX4_clear_40 : decode cX4_clear 40 = .ok (.aload_n 0, 1) := by decide +kernel
theorem dX4_clear_41 : decode cX4_clear 41 = .ok (.lconst 0, 1) := by decide +kernel
theorem dX4_clear_42 : decode cX4_clear 42 = .ok (.putfield 44, 3) := by decide +kernel
theorem dX4_clear_45 : decode cX4_clear 45 = .ok (.aload_n 0, 1) := by decide +kernel
theorem dX4_clear_46 : decode cX4_clear 46 = .ok (.lconst 0, 1) := by decide +kernel
theorem dX4_clear_47 : decode cX4_clear 47 = .ok (.putfield 47, 3) := by decide +kernel
theorem dX4_clear_50 : decode cX4_clear 50 = .ok (.return_, 1) := by decide +kernel
theorem dX4_addFleet_0 : decode cX4_addFleet 0 = .ok (.iload_n 1, 1) := by decide +kernel
theorem dX4_addFleet_1 : decode cX4_addFleet 1 = .ok (.ifCond .le 81, 3) := by decide +kernel
theorem dX4_addFleet_4 : decode cX4_addFleet 4 = .ok (.aload_n 0, 1) := by decide +kernel
theorem dX4_addFleet_5 : decode cX4_addFleet 5 = .ok (.dup, 1) := by decide +kernel
theorem dX4_addFleet_6 : decode cX4_addFleet 6 = .ok (.getfield 18, 3) := by decide +kernel
theorem dX4_addFleet_9 : decode cX4_addFleet 9 = .ok (.iconst 1, 1) := by decide +kernel
theorem dX4_addFleet_10 : decode cX4_addFleet 10 = .ok (.iadd, 1) := by decide +kernel
theorem dX4_addFleet_11 : decode cX4_addFleet 11 = .ok (.putfield 18, 3) := by decide +kernel
theorem dX4_addFleet_14 : decode cX4_addFleet 14 = .ok (.aload_n 0, 1) := by decide +kernel
theorem dX4_addFleet_15 : decode cX4_addFleet 15 = .ok (.dup, 1) := by decide +kernel
theorem dX4_addFleet_16 : decode cX4_addFleet 16 = .ok (.getfield 22, 3) := by decide +kernel
theorem dX4_addFleet_19 : decode cX4_addFleet 19 = .ok (.iload_n 1, 1) := by decide +kernel
theorem dX4_addFleet_20 : decode cX4_addFleet 20 = .ok (.iadd, 1) := by decide +kernel
theorem dX4_addFleet_21 : decode cX4_addFleet 21 = .ok (.putfield 22, 3) := by decide +kernel
theorem dX4_addFleet_24 : decode cX4_addFleet 24 = .ok (.aload_n 0, 1) := by decide +kernel
theorem dX4_addFleet_25 : decode cX4_addFleet 25 = .ok (.dup, 1) := by decide +kernel
theorem dX4_addFleet_26 : decode cX4_addFleet 26 = .ok (.getfield 25, 3) := by decide +kernel
theorem dX4_addFleet_29 : decode cX4_addFleet 29 = .ok (.iload_n 2, 1) := by decide +kernel
theorem dX4_addFleet_30 : decode cX4_addFleet 30 = .ok (.iadd, 1) := by decide +kernel
theorem dX4_addFleet_31 : decode cX4_addFleet 31 = .ok (.putfield 25, 3) := by decide +kernel
theorem dX4_addFleet_34 : decode cX4_addFleet 34 = .ok (.aload_n 0, 1) := by decide +kernel
theorem dX4_addFleet_35 : decode cX4_addFleet 35 = .ok (.dup, 1) := by decide +kernel
theorem dX4_addFleet_36 : decode cX4_addFleet 36 = .ok (.getfield 31, 3) := by decide +kernel
theorem dX4_addFleet_39 : decode cX4_addFleet 39 = .ok (.iload_n 1, 1) := by decide +kernel
theorem dX4_addFleet_40 : decode cX4_addFleet 40 = .ok (.iload_n 1, 1) := by decide +kernel
theorem dX4_addFleet_41 : decode cX4_addFleet 41 = .ok (.imul, 1) := by decide +kernel
theorem dX4_addFleet_42 : decode cX4_addFleet 42 = .ok (.i2l, 1) := by decide +kernel
theorem dX4_addFleet_43 : decode cX4_addFleet 43 = .ok (.ladd, 1) := by decide +kernel
theorem dX4_addFleet_44 : decode cX4_addFleet 44 = .ok (.putfield 31, 3) := by decide +kernel
theorem dX4_addFleet_47 : decode cX4_addFleet 47 = .ok (.aload_n 0, 1) := by decide +kernel
theorem dX4_addFleet_48 : decode cX4_addFleet 48 = .ok (.dup, 1) := by decide +kernel
theorem dX4_addFleet_49 : decode cX4_addFleet 49 = .ok (.getfield 35, 3) := by decide +kernel
theorem dX4_addFleet_52 : decode cX4_addFleet 52 = .ok (.ldc2_w 50, 3) := by decide +kernel
theorem dX4_addFleet_55 : decode cX4_addFleet 55 = .ok (.iload_n 3, 1) := by decide +kernel
theorem dX4_addFleet_56 : decode cX4_addFleet 56 = .ok (.i2l, 1) := by decide +kernel
theorem dX4_addFleet_57 : decode cX4_addFleet 57 = .ok (.lmul, 1) := by decide +kernel
theorem dX4_addFleet_58 : decode cX4_addFleet 58 = .ok (.ladd, 1) := by decide +kernel
theorem dX4_addFleet_59 : decode cX4_addFleet 59 = .ok (.putfield 35, 3) := by decide +kernel
theorem dX4_addFleet_62 : decode cX4_addFleet 62 = .ok (.aload_n 0, 1) := by decide +kernel
theorem dX4_addFleet_63 : decode cX4_addFleet 63 = .ok (.dup, 1) := by decide +kernel
theorem dX4_addFleet_64 : decode cX4_addFleet 64 = .ok (.getfield 38, 3) := by decide +kernel
theorem dX4_addFleet_67 : decode cX4_addFleet 67 = .ok (.iload_n 2, 1) := by decide +kernel
theorem dX4_addFleet_68 : decode cX4_addFleet 68 = .ok (.i2l, 1) := by decide +kernel
theorem dX4_addFleet_69 : decode cX4_addFleet 69 = .ok (.iload_n 2, 1) := by decide +kernel
theorem dX4_addFleet_70 : decode cX4_addFleet 70 = .ok (.i2l, 1) := by decide +kernel
theorem dX4_addFleet_71 : decode cX4_addFleet 71 = .ok (.lmul, 1) := by decide +kernel
theorem dX4_addFleet_72 : decode cX4_addFleet 72 = .ok (.bipush 60, 2) := by decide +kernel
theorem dX4_addFleet_74 : decode cX4_addFleet 74 = .ok (.iload_n 1, 1) := by decide +kernel
theorem dX4_addFleet_75 : decode cX4_addFleet 75 = .ok (.idiv, 1) := by decide +kernel
theorem dX4_addFleet_76 : decode cX4_addFleet 76 = .ok (.i2l, 1) := by decide +kernel
theorem dX4_addFleet_77 : decode cX4_addFleet 77 = .ok (.lmul, 1) := by decide +kernel
theorem dX4_addFleet_78 : decode cX4_addFleet 78 = .ok (.ladd, 1) := by decide +kernel
theorem dX4_addFleet_79 : decode cX4_addFleet 79 = .ok (.putfield 38, 3) := by decide +kernel
theorem dX4_addFleet_82 : decode cX4_addFleet 82 = .ok (.return_, 1) := by decide +kernel
theorem dX4_settle_0 : decode cX4_settle 0 = .ok (.aload_n 0, 1) := by decide +kernel
theorem dX4_settle_1 : decode cX4_settle 1 = .ok (.aload_n 0, 1) := by decide +kernel
theorem dX4_settle_2 : decode cX4_settle 2 = .ok (.getfield 22, 3) := by decide +kernel
theorem dX4_settle_5 : decode cX4_settle 5 = .ok (.aload_n 0, 1) := by decide +kernel
theorem dX4_settle_6 : decode cX4_settle 6 = .ok (.getfield 18, 3) := by decide +kernel
theorem dX4_settle_9 : decode cX4_settle 9 = .ok (.isub, 1) := by decide +kernel
theorem dX4_settle_10 : decode cX4_settle 10 = .ok (.i2l, 1) := by decide +kernel
theorem dX4_settle_11 : decode cX4_settle 11 = .ok (.putfield 52, 3) := by decide +kernel
theorem dX4_settle_14 : decode cX4_settle 14 = .ok (.aload_n 0, 1) := by decide +kernel
theorem dX4_settle_15 : decode cX4_settle 15 = .ok (.aload_n 0, 1) := by decide +kernel
theorem dX4_settle_16 : decode cX4_settle 16 = .ok (.getfield 22, 3) := by decide +kernel
theorem dX4_settle_19 : decode cX4_settle 19 = .ok (.i2l, 1) := by decide +kernel
theorem dX4_settle_20 : decode cX4_settle 20 = .ok (.aload_n 0, 1) := by decide +kernel
theorem dX4_settle_21 : decode cX4_settle 21 = .ok (.getfield 22, 3) := by decide +kernel
theorem dX4_settle_24 : decode cX4_settle 24 = .ok (.i2l, 1) := by decide +kernel
theorem dX4_settle_25 : decode cX4_settle 25 = .ok (.lmul, 1) := by decide +kernel
theorem dX4_settle_26 : decode cX4_settle 26 = .ok (.aload_n 0, 1) := by decide +kernel
theorem dX4_settle_27 : decode cX4_settle 27 = .ok (.getfield 31, 3) := by decide +kernel
theorem dX4_settle_30 : decode cX4_settle 30 = .ok (.lsub, 1) := by decide +kernel
theorem dX4_settle_31 : decode cX4_settle 31 = .ok (.putfield 55, 3) := by decide +kernel
theorem dX4_settle_34 : decode cX4_settle 34 = .ok (.aload_n 0, 1) := by decide +kernel
theorem dX4_settle_35 : decode cX4_settle 35 = .ok (.aload_n 0, 1) := by decide +kernel
theorem dX4_settle_36 : decode cX4_settle 36 = .ok (.getfield 35, 3) := by decide +kernel
theorem dX4_settle_39 : decode cX4_settle 39 = .ok (.aload_n 0, 1) := by decide +kernel
theorem dX4_settle_40 : decode cX4_settle 40 = .ok (.getfield 38, 3) := by decide +kernel
theorem dX4_settle_43 : decode cX4_settle 43 = .ok (.lsub, 1) := by decide +kernel
theorem dX4_settle_44 : decode cX4_settle 44 = .ok (.putfield 58, 3) := by decide +kernel
theorem dX4_settle_47 : decode cX4_settle 47 = .ok (.aload_n 0, 1) := by decide +kernel
theorem dX4_settle_48 : decode cX4_settle 48 = .ok (.lconst 0, 1) := by decide +kernel
theorem dX4_settle_49 : decode cX4_settle 49 = .ok (.putfield 61, 3) := by decide +kernel
theorem dX4_settle_52 : decode cX4_settle 52 = .ok (.aload_n 0, 1) := by decide +kernel
theorem dX4_settle_53 : decode cX4_settle 53 = .ok (.invokevirtual 64, 3) := by decide +kernel
theorem dX4_settle_56 : decode cX4_settle 56 = .ok (.ifCond .eq 66, 3) := by decide +kernel
theorem dX4_settle_59 : decode cX4_settle 59 = .ok (.aload_n 0, 1) := by decide +kernel
theorem dX4_settle_60 : decode cX4_settle 60 = .ok (.lconst 0, 1) := by decide +kernel
theorem dX4_settle_61 : decode cX4_settle 61 = .ok (.aload_n 0, 1) := by decide +kernel
theorem dX4_settle_62 : decode cX4_settle 62 = .ok (.getfield 38, 3) := by decide +kernel
theorem dX4_settle_65 : decode cX4_settle 65 = .ok (.aload_n 0, 1) := by decide +kernel
theorem dX4_settle_66 : decode cX4_settle 66 = .ok (.getfield 22, 3) := by decide +kernel
theorem dX4_settle_69 : decode cX4_settle 69 = .ok (.i2l, 1) := by decide +kernel
theorem dX4_settle_70 : decode cX4_settle 70 = .ok (.lmul, 1) := by decide +kernel
theorem dX4_settle_71 : decode cX4_settle 71 = .ok (.aload_n 0, 1) := by decide +kernel
theorem dX4_settle_72 : decode cX4_settle 72 = .ok (.getfield 52, 3) := by decide +kernel
theorem dX4_settle_75 : decode cX4_settle 75 = .ok (.lmul, 1) := by decide +kernel
theorem dX4_settle_76 : decode cX4_settle 76 = .ok (.ldc2_w 50, 3) := by decide +kernel
theorem dX4_settle_79 : decode cX4_settle 79 = .ok (.aload_n 0, 1) := by decide +kernel
theorem dX4_settle_80 : decode cX4_settle 80 = .ok (.getfield 25, 3) := by decide +kernel
theorem dX4_settle_83 : decode cX4_settle 83 = .ok (.i2l, 1) := by decide +kernel
theorem dX4_settle_84 : decode cX4_settle 84 = .ok (.lmul, 1) := by decide +kernel
theorem dX4_settle_85 : decode cX4_settle 85 = .ok (.aload_n 0, 1) := by decide +kernel
theorem dX4_settle_86 : decode cX4_settle 86 = .ok (.getfield 25, 3) := by decide +kernel
theorem dX4_settle_89 : decode cX4_settle 89 = .ok (.i2l, 1) := by decide +kernel
theorem dX4_settle_90 : decode cX4_settle 90 = .ok (.lmul, 1) := by decide +kernel
theorem dX4_settle_91 : decode cX4_settle 91 = .ok (.aload_n 0, 1) := by decide +kernel
theorem dX4_settle_92 : decode cX4_settle 92 = .ok (.getfield 52, 3) := by decide +kernel
theorem dX4_settle_95 : decode cX4_settle 95 = .ok (.lmul, 1) := by decide +kernel
theorem dX4_settle_96 : decode cX4_settle 96 = .ok (.lsub, 1) := by decide +kernel
theorem dX4_settle_97 : decode cX4_settle 97 = .ok (.aload_n 0, 1) := by decide +kernel
theorem dX4_settle_98 : decode cX4_settle 98 = .ok (.getfield 18, 3) := by decide +kernel
theorem dX4_settle_101 : decode cX4_settle 101 = .ok (.iconst 1, 1) := by decide +kernel
theorem dX4_settle_102 : decode cX4_settle 102 = .ok (.isub, 1) := by decide +kernel
theorem dX4_settle_103 : decode cX4_settle 103 = .ok (.i2l, 1) := by decide +kernel
theorem dX4_settle_104 : decode cX4_settle 104 = .ok (.aload_n 0, 1) := by decide +kernel
theorem dX4_settle_105 : decode cX4_settle 105 = .ok (.getfield 58, 3) := by decide +kernel
theorem dX4_settle_108 : decode cX4_settle 108 = .ok (.lmul, 1) := by decide +kernel
theorem dX4_settle_109 : decode cX4_settle 109 = .ok (.aload_n 0, 1) := by decide +kernel
theorem dX4_settle_110 : decode cX4_settle 110 = .ok (.getfield 22, 3) := by decide +kernel
theorem dX4_settle_113 : decode cX4_settle 113 = .ok (.i2l, 1) := by decide +kernel
theorem dX4_settle_114 : decode cX4_settle 114 = .ok (.lmul, 1) := by decide +kernel
theorem dX4_settle_115 : decode cX4_settle 115 = .ok (.lsub, 1) := by decide +kernel
theorem dX4_settle_116 : decode cX4_settle 116 = .ok (.invokestatic 68, 3) := by decide +kernel
theorem dX4_settle_119 : decode cX4_settle 119 = .ok (.putfield 61, 3) := by decide +kernel
theorem dX4_settle_122 : decode cX4_settle 122 = .ok (.return_, 1) := by decide +kernel
theorem dX4_addShare_0 : decode cX4_addShare 0 = .ok (.iload_n 1, 1) := by decide +kernel
theorem dX4_addShare_1 : decode cX4_addShare 1 = .ok (.ifCond .le 65, 3) := by decide +kernel
theorem dX4_addShare_4 : decode cX4_addShare 4 = .ok (.aload_n 0, 1) := by decide +kernel
theorem dX4_addShare_5 : decode cX4_addShare 5 = .ok (.dup, 1) := by decide +kernel
theorem dX4_addShare_6 : decode cX4_addShare 6 = .ok (.getfield 28, 3) := by decide +kernel
theorem dX4_addShare_9 : decode cX4_addShare 9 = .ok (.iload_n 3, 1) := by decide +kernel
theorem dX4_addShare_10 : decode cX4_addShare 10 = .ok (.iadd, 1) := by decide +kernel
theorem dX4_addShare_11 : decode cX4_addShare 11 = .ok (.putfield 28, 3) := by decide +kernel
theorem dX4_addShare_14 : decode cX4_addShare 14 = .ok (.aload_n 0, 1) := by decide +kernel
theorem dX4_addShare_15 : decode cX4_addShare 15 = .ok (.dup, 1) := by decide +kernel
theorem dX4_addShare_16 : decode cX4_addShare 16 = .ok (.getfield 41, 3) := by decide +kernel
theorem dX4_addShare_19 : decode cX4_addShare 19 = .ok (.iload_n 2, 1) := by decide +kernel
theorem dX4_addShare_20 : decode cX4_addShare 20 = .ok (.i2l, 1) := by decide +kernel
theorem dX4_addShare_21 : decode cX4_addShare 21 = .ok (.iload_n 3, 1) := by decide +kernel
theorem dX4_addShare_22 : decode cX4_addShare 22 = .ok (.i2l, 1) := by decide +kernel
theorem dX4_addShare_23 : decode cX4_addShare 23 = .ok (.lmul, 1) := by decide +kernel
theorem dX4_addShare_24 : decode cX4_addShare 24 = .ok (.bipush 60, 2) := by decide +kernel
theorem dX4_addShare_26 : decode cX4_addShare 26 = .ok (.iload_n 1, 1) := by decide +kernel
theorem dX4_addShare_27 : decode cX4_addShare 27 = .ok (.idiv, 1) := by decide +kernel
theorem dX4_addShare_28 : decode cX4_addShare 28 = .ok (.i2l, 1) := by decide +kernel
theorem dX4_addShare_29 : decode cX4_addShare 29 = .ok (.lmul, 1) := by decide +kernel
theorem dX4_addShare_30 : decode cX4_addShare 30 = .ok (.ladd, 1) := by decide +kernel
theorem dX4_addShare_31 : decode cX4_addShare 31 = .ok (.putfield 41, 3) := by decide +kernel
theorem dX4_addShare_34 : decode cX4_addShare 34 = .ok (.aload_n 0, 1) := by decide +kernel
theorem dX4_addShare_35 : decode cX4_addShare 35 = .ok (.dup, 1) := by decide +kernel
theorem dX4_addShare_36 : decode cX4_addShare 36 = .ok (.getfield 44, 3) := by decide +kernel
theorem dX4_addShare_39 : decode cX4_addShare 39 = .ok (.iload_n 2, 1) := by decide +kernel
theorem dX4_addShare_40 : decode cX4_addShare 40 = .ok (.i2l, 1) := by decide +kernel
theorem dX4_addShare_41 : decode cX4_addShare 41 = .ok (.iload_n 3, 1) := by decide +kernel
theorem dX4_addShare_42 : decode cX4_addShare 42 = .ok (.i2l, 1) := by decide +kernel
theorem dX4_addShare_43 : decode cX4_addShare 43 = .ok (.lmul, 1) := by decide +kernel
theorem dX4_addShare_44 : decode cX4_addShare 44 = .ok (.ladd, 1) := by decide +kernel
theorem dX4_addShare_45 : decode cX4_addShare 45 = .ok (.putfield 44, 3) := by decide +kernel
theorem dX4_addShare_48 : decode cX4_addShare 48 = .ok (.aload_n 0, 1) := by decide +kernel
theorem dX4_addShare_49 : decode cX4_addShare 49 = .ok (.dup, 1) := by decide +kernel
theorem dX4_addShare_50 : decode cX4_addShare 50 = .ok (.getfield 47, 3) := by decide +kernel
theorem dX4_addShare_53 : decode cX4_addShare 53 = .ok (.iload_n 1, 1) := by decide +kernel
theorem dX4_addShare_54 : decode cX4_addShare 54 = .ok (.i2l, 1) := by decide +kernel
theorem dX4_addShare_55 : decode cX4_addShare 55 = .ok (.sipush 1000, 3) := by decide +kernel
theorem dX4_addShare_58 : decode cX4_addShare 58 = .ok (.iload_n 3, 1) := by decide +kernel
theorem dX4_addShare_59 : decode cX4_addShare 59 = .ok (.isub, 1) := by decide +kernel
theorem dX4_addShare_60 : decode cX4_addShare 60 = .ok (.i2l, 1) := by decide +kernel
theorem dX4_addShare_61 : decode cX4_addShare 61 = .ok (.lmul, 1) := by decide +kernel
theorem dX4_addShare_62 : decode cX4_addShare 62 = .ok (.ladd, 1) := by decide +kernel
theorem dX4_addShare_63 : decode cX4_addShare 63 = .ok (.putfield 47, 3) := by decide +kernel
theorem dX4_addShare_66 : decode cX4_addShare 66 = .ok (.return_, 1) := by decide +kernel
theorem dX4_hasBetween_0 : decode cX4_hasBetween 0 = .ok (.aload_n 0, 1) := by decide +kernel
theorem dX4_hasBetween_1 : decode cX4_hasBetween 1 = .ok (.getfield 18, 3) := by decide +kernel
theorem dX4_hasBetween_4 : decode cX4_hasBetween 4 = .ok (.iconst 2, 1) := by decide +kernel
theorem dX4_hasBetween_5 : decode cX4_hasBetween 5 = .ok (.if_icmp .lt 16, 3) := by decide +kernel
theorem dX4_hasBetween_8 : decode cX4_hasBetween 8 = .ok (.aload_n 0, 1) := by decide +kernel
theorem dX4_hasBetween_9 : decode cX4_hasBetween 9 = .ok (.getfield 52, 3) := by decide +kernel
theorem dX4_hasBetween_12 : decode cX4_hasBetween 12 = .ok (.lconst 0, 1) := by decide +kernel
theorem dX4_hasBetween_13 : decode cX4_hasBetween 13 = .ok (.lcmp, 1) := by decide +kernel
theorem dX4_hasBetween_14 : decode cX4_hasBetween 14 = .ok (.ifCond .le 7, 3) := by decide +kernel
theorem dX4_hasBetween_17 : decode cX4_hasBetween 17 = .ok (.iconst 1, 1) := by decide +kernel
theorem dX4_hasBetween_18 : decode cX4_hasBetween 18 = .ok (.goto 4, 3) := by decide +kernel
theorem dX4_hasBetween_21 : decode cX4_hasBetween 21 = .ok (.iconst 0, 1) := by decide +kernel
theorem dX4_hasBetween_22 : decode cX4_hasBetween 22 = .ok (.ireturn, 1) := by decide +kernel
theorem dX4_putWithin_0 : decode cX4_putWithin 0 = .ok (.aload_n 1, 1) := by decide +kernel
theorem dX4_putWithin_1 : decode cX4_putWithin 1 = .ok (.aload_n 0, 1) := by decide +kernel
theorem dX4_putWithin_2 : decode cX4_putWithin 2 = .ok (.getfield 58, 3) := by decide +kernel
theorem dX4_putWithin_5 : decode cX4_putWithin 5 = .ok (.ldc2_w 50, 3) := by decide +kernel
theorem dX4_putWithin_8 : decode cX4_putWithin 8 = .ok (.aload_n 0, 1) := by decide +kernel
theorem dX4_putWithin_9 : decode cX4_putWithin 9 = .ok (.getfield 52, 3) := by decide +kernel
theorem dX4_putWithin_12 : decode cX4_putWithin 12 = .ok (.lmul, 1) := by decide +kernel
theorem dX4_putWithin_13 : decode cX4_putWithin 13 = .ok (.invokevirtual 74, 3) := by decide +kernel
theorem dX4_putWithin_16 : decode cX4_putWithin 16 = .ok (.return_, 1) := by decide +kernel
theorem dX4_putBetween_0 : decode cX4_putBetween 0 = .ok (.aload_n 1, 1) := by decide +kernel
theorem dX4_putBetween_1 : decode cX4_putBetween 1 = .ok (.invokevirtual 78, 3) := by decide +kernel
theorem dX4_putBetween_4 : decode cX4_putBetween 4 = .ok (.aload_n 0, 1) := by decide +kernel
theorem dX4_putBetween_5 : decode cX4_putBetween 5 = .ok (.invokevirtual 64, 3) := by decide +kernel
theorem dX4_putBetween_8 : decode cX4_putBetween 8 = .ok (.ifCond .eq 24, 3) := by decide +kernel
theorem dX4_putBetween_11 : decode cX4_putBetween 11 = .ok (.aload_n 1, 1) := by decide +kernel
theorem dX4_putBetween_12 : decode cX4_putBetween 12 = .ok (.aload_n 0, 1) := by decide +kernel
theorem dX4_putBetween_13 : decode cX4_putBetween 13 = .ok (.getfield 61, 3) := by decide +kernel
theorem dX4_putBetween_16 : decode cX4_putBetween 16 = .ok (.ldc2_w 50, 3) := by decide +kernel
theorem dX4_putBetween_19 : decode cX4_putBetween 19 = .ok (.aload_n 0, 1) := by decide +kernel
theorem dX4_putBetween_20 : decode cX4_putBetween 20 = .ok (.getfield 52, 3) := by decide +kernel
theorem dX4_putBetween_23 : decode cX4_putBetween 23 = .ok (.lmul, 1) := by decide +kernel
theorem dX4_putBetween_24 : decode cX4_putBetween 24 = .ok (.aload_n 0, 1) := by decide +kernel
theorem dX4_putBetween_25 : decode cX4_putBetween 25 = .ok (.getfield 55, 3) := by decide +kernel
theorem dX4_putBetween_28 : decode cX4_putBetween 28 = .ok (.lmul, 1) := by decide +kernel
theorem dX4_putBetween_29 : decode cX4_putBetween 29 = .ok (.invokevirtual 74, 3) := by decide +kernel
theorem dX4_putBetween_32 : decode cX4_putBetween 32 = .ok (.return_, 1) := by decide +kernel
theorem dX4_shareBySpan_0 : decode cX4_shareBySpan 0 = .ok (.iload_n 1, 1) := by decide +kernel
theorem dX4_shareBySpan_1 : decode cX4_shareBySpan 1 = .ok (.i2l, 1) := by decide +kernel
theorem dX4_shareBySpan_2 : decode cX4_shareBySpan 2 = .ok (.aload_n 0, 1) := by decide +kernel
theorem dX4_shareBySpan_3 : decode cX4_shareBySpan 3 = .ok (.getfield 61, 3) := by decide +kernel
theorem dX4_shareBySpan_6 : decode cX4_shareBySpan 6 = .ok (.lmul, 1) := by decide +kernel
theorem dX4_shareBySpan_7 : decode cX4_shareBySpan 7 = .ok (.lstore_n 2, 1) := by decide +kernel
theorem dX4_shareBySpan_8 : decode cX4_shareBySpan 8 = .ok (.lload_n 2, 1) := by decide +kernel
theorem dX4_shareBySpan_9 : decode cX4_shareBySpan 9 = .ok (.aload_n 0, 1) := by decide +kernel
theorem dX4_shareBySpan_10 : decode cX4_shareBySpan 10 = .ok (.getfield 58, 3) := by decide +kernel
theorem dX4_shareBySpan_13 : decode cX4_shareBySpan 13 = .ok (.aload_n 0, 1) := by decide +kernel
theorem dX4_shareBySpan_14 : decode cX4_shareBySpan 14 = .ok (.getfield 55, 3) := by decide +kernel
theorem dX4_shareBySpan_17 : decode cX4_shareBySpan 17 = .ok (.lmul, 1) := by decide +kernel
theorem dX4_shareBySpan_18 : decode cX4_shareBySpan 18 = .ok (.ladd, 1) := by decide +kernel
theorem dX4_shareBySpan_19 : decode cX4_shareBySpan 19 = .ok (.lstore 4, 2) := by decide +kernel
theorem dX4_shareBySpan_21 : decode cX4_shareBySpan 21 = .ok (.lload_n 2, 1) := by decide +kernel
theorem dX4_shareBySpan_22 : decode cX4_shareBySpan 22 = .ok (.lconst 0, 1) := by decide +kernel
theorem dX4_shareBySpan_23 : decode cX4_shareBySpan 23 = .ok (.lcmp, 1) := by decide +kernel
theorem dX4_shareBySpan_24 : decode cX4_shareBySpan 24 = .ok (.ifCond .le 22, 3) := by decide +kernel
theorem dX4_shareBySpan_27 : decode cX4_shareBySpan 27 = .ok (.lload 4, 2) := by decide +kernel
theorem dX4_shareBySpan_29 : decode cX4_shareBySpan 29 = .ok (.lconst 0, 1) := by decide +kernel
theorem dX4_shareBySpan_30 : decode cX4_shareBySpan 30 = .ok (.lcmp, 1) := by decide +kernel
theorem dX4_shareBySpan_31 : decode cX4_shareBySpan 31 = .ok (.ifCond .le 15, 3) := by decide +kernel
theorem dX4_shareBySpan_34 : decode cX4_shareBySpan 34 = .ok (.ldc2_w 81, 3) := by decide +kernel
theorem dX4_shareBySpan_37 : decode cX4_shareBySpan 37 = .ok (.lload_n 2, 1) := by decide +kernel
theorem dX4_shareBySpan_38 : decode cX4_shareBySpan 38 = .ok (.lmul, 1) := by decide +kernel
theorem dX4_shareBySpan_39 : decode cX4_shareBySpan 39 = .ok (.lload 4, 2) := by decide +kernel
theorem dX4_shareBySpan_41 : decode cX4_shareBySpan 41 = .ok (.ldiv, 1) := by decide +kernel
theorem dX4_shareBySpan_42 : decode cX4_shareBySpan 42 = .ok (.l2i, 1) := by decide +kernel
theorem dX4_shareBySpan_43 : decode cX4_shareBySpan 43 = .ok (.goto 4, 3) := by decide +kernel
theorem dX4_shareBySpan_46 : decode cX4_shareBySpan 46 = .ok (.iconst 0, 1) := by decide +kernel
theorem dX4_shareBySpan_47 : decode cX4_shareBySpan 47 = .ok (.ireturn, 1) := by decide +kernel
theorem dX4_putCentre_0 : decode cX4_putCentre 0 = .ok (.aload_n 0, 1) := by decide +kernel
theorem dX4_putCentre_1 : decode cX4_putCentre 1 = .ok (.getfield 28, 3) := by decide +kernel
theorem dX4_putCentre_4 : decode cX4_putCentre 4 = .ok (.ifCond .ne 20, 3) := by decide +kernel
theorem dX4_putCentre_7 : decode cX4_putCentre 7 = .ok (.aload_n 1, 1) := by decide +kernel
theorem dX4_putCentre_8 : decode cX4_putCentre 8 = .ok (.aload_n 0, 1) := by decide +kernel
theorem dX4_putCentre_9 : decode cX4_putCentre 9 = .ok (.getfield 25, 3) := by decide +kernel
theorem dX4_putCentre_12 : decode cX4_putCentre 12 = .ok (.i2l, 1) := by decide +kernel
theorem dX4_putCentre_13 : decode cX4_putCentre 13 = .ok (.aload_n 0, 1) := by decide +kernel
theorem dX4_putCentre_14 : decode cX4_putCentre 14 = .ok (.getfield 22, 3) := by decide +kernel
theorem dX4_putCentre_17 : decode cX4_putCentre 17 = .ok (.i2l, 1) := by decide +kernel
theorem dX4_putCentre_18 : decode cX4_putCentre 18 = .ok (.invokevirtual 74, 3) := by decide +kernel
theorem dX4_putCentre_21 : decode cX4_putCentre 21 = .ok (.goto 20, 3) := by decide +kernel
theorem dX4_putCentre_24 : decode cX4_putCentre 24 = .ok (.aload_n 1, 1) := by decide +kernel
theorem dX4_putCentre_25 : decode cX4_putCentre 25 = .ok (.aload_n 0, 1) := by decide +kernel
theorem dX4_putCentre_26 : decode cX4_putCentre 26 = .ok (.getfield 41, 3) := by decide +kernel
theorem dX4_putCentre_29 : decode cX4_putCentre 29 = .ok (.ldc2_w 50, 3) := by decide +kernel
theorem dX4_putCentre_32 : decode cX4_putCentre 32 = .ok (.aload_n 0, 1) := by decide +kernel
theorem dX4_putCentre_33 : decode cX4_putCentre 33 = .ok (.getfield 28, 3) := by decide +kernel
theorem dX4_putCentre_36 : decode cX4_putCentre 36 = .ok (.i2l, 1) := by decide +kernel
theorem dX4_putCentre_37 : decode cX4_putCentre 37 = .ok (.lmul, 1) := by decide +kernel
theorem dX4_putCentre_38 : decode cX4_putCentre 38 = .ok (.invokevirtual 74, 3) := by decide +kernel
theorem dX4_putCentre_41 : decode cX4_putCentre 41 = .ok (.return_, 1) := by decide +kernel
theorem dX4_steadiness_0 : decode cX4_steadiness 0 = .ok (.aload_n 0, 1) := by decide +kernel
theorem dX4_steadiness_1 : decode cX4_steadiness 1 = .ok (.getfield 22, 3) := by decide +kernel
theorem dX4_steadiness_4 : decode cX4_steadiness 4 = .ok (.iload_n 1, 1) := by decide +kernel
theorem dX4_steadiness_5 : decode cX4_steadiness 5 = .ok (.iadd, 1) := by decide +kernel
theorem dX4_steadiness_6 : decode cX4_steadiness 6 = .ok (.istore_n 2, 1) := by decide +kernel
theorem dX4_steadiness_7 : decode cX4_steadiness 7 = .ok (.iload_n 2, 1) := by decide +kernel
theorem dX4_steadiness_8 : decode cX4_steadiness 8 = .ok (.ifCond .le 16, 3) := by decide +kernel
theorem dX4_steadiness_11 : decode cX4_steadiness 11 = .ok (.sipush 1000, 3) := by decide +kernel
theorem dX4_steadiness_14 : decode cX4_steadiness 14 = .ok (.aload_n 0, 1) := by decide +kernel
theorem dX4_steadiness_15 : decode cX4_steadiness 15 = .ok (.getfield 22, 3) := by decide +kernel
theorem dX4_steadiness_18 : decode cX4_steadiness 18 = .ok (.imul, 1) := by decide +kernel
theorem dX4_steadiness_19 : decode cX4_steadiness 19 = .ok (.iload_n 2, 1) := by decide +kernel
theorem dX4_steadiness_20 : decode cX4_steadiness 20 = .ok (.idiv, 1) := by decide +kernel
theorem dX4_steadiness_21 : decode cX4_steadiness 21 = .ok (.goto 4, 3) := by decide +kernel
theorem dX4_steadiness_24 : decode cX4_steadiness 24 = .ok (.iconst 0, 1) := by decide +kernel
theorem dX4_steadiness_25 : decode cX4_steadiness 25 = .ok (.ireturn, 1) := by decide +kernel
theorem dX4_reckonBase_0 : decode cX4_reckonBase 0 = .ok (.aload_n 0, 1) := by decide +kernel
theorem dX4_reckonBase_1 : decode cX4_reckonBase 1 = .ok (.aload_n 0, 1) := by decide +kernel
theorem dX4_reckonBase_2 : decode cX4_reckonBase 2 = .ok (.getfield 12, 3) := by decide +kernel
theorem dX4_reckonBase_5 : decode cX4_reckonBase 5 = .ok (.invokevirtual 83, 3) := by decide +kernel
theorem dX4_reckonBase_8 : decode cX4_reckonBase 8 = .ok (.aload_n 0, 1) := by decide +kernel
theorem dX4_reckonBase_9 : decode cX4_reckonBase 9 = .ok (.getfield 12, 3) := by decide +kernel
theorem dX4_reckonBase_12 : decode cX4_reckonBase 12 = .ok (.invokevirtual 87, 3) := by decide +kernel
theorem dX4_reckonBase_15 : decode cX4_reckonBase 15 = .ok (.ifCond .ne 73, 3) := by decide +kernel
theorem dX4_reckonBase_18 : decode cX4_reckonBase 18 = .ok (.aload_n 2, 1) := by decide +kernel
theorem dX4_reckonBase_19 : decode cX4_reckonBase 19 = .ok (.invokevirtual 87, 3) := by decide +kernel
theorem dX4_reckonBase_22 : decode cX4_reckonBase 22 = .ok (.ifCond .ne 66, 3) := by decide +kernel
theorem dX4_reckonBase_25 : decode cX4_reckonBase 25 = .ok (.aload_n 0, 1) := by decide +kernel
theorem dX4_reckonBase_26 : decode cX4_reckonBase 26 = .ok (.iload_n 1, 1) := by decide +kernel
theorem dX4_reckonBase_27 : decode cX4_reckonBase 27 = .ok (.invokevirtual 90, 3) := by decide +kernel
theorem dX4_reckonBase_30 : decode cX4_reckonBase 30 = .ok (.i2l, 1) := by decide +kernel
theorem dX4_reckonBase_31 : decode cX4_reckonBase 31 = .ok (.lstore_n 3, 1) := by decide +kernel
theorem dX4_reckonBase_32 : decode cX4_reckonBase 32 = .ok (.aload_n 0, 1) := by decide +kernel
theorem dX4_reckonBase_33 : decode cX4_reckonBase 33 = .ok (.getfield 12, 3) := by decide +kernel
theorem dX4_reckonBase_36 : decode cX4_reckonBase 36 = .ok (.lload_n 3, 1) := by decide +kernel
theorem dX4_reckonBase_37 : decode cX4_reckonBase 37 = .ok (.aload_n 0, 1) := by decide +kernel
theorem dX4_reckonBase_38 : decode cX4_reckonBase 38 = .ok (.getfield 12, 3) := by decide +kernel
theorem dX4_reckonBase_41 : decode cX4_reckonBase 41 = .ok (.getfield 94, 3) := by decide +kernel
theorem dX4_reckonBase_44 : decode cX4_reckonBase 44 = .ok (.lmul, 1) := by decide +kernel
theorem dX4_reckonBase_45 : decode cX4_reckonBase 45 = .ok (.aload_n 2, 1) := by decide +kernel
theorem dX4_reckonBase_46 : decode cX4_reckonBase 46 = .ok (.getfield 97, 3) := by decide +kernel
theorem dX4_reckonBase_49 : decode cX4_reckonBase 49 = .ok (.lmul, 1) := by decide +kernel
theorem dX4_reckonBase_50 : decode cX4_reckonBase 50 = .ok (.ldc2_w 81, 3) := by decide +kernel
theorem dX4_reckonBase_53 : decode cX4_reckonBase 53 = .ok (.lload_n 3, 1) := by decide +kernel
theorem dX4_reckonBase_54 : decode cX4_reckonBase 54 = .ok (.lsub, 1) := by decide +kernel
theorem dX4_reckonBase_55 : decode cX4_reckonBase 55 = .ok (.aload_n 2, 1) := by decide +kernel
theorem dX4_reckonBase_56 : decode cX4_reckonBase 56 = .ok (.getfield 94, 3) := by decide +kernel
theorem dX4_reckonBase_59 : decode cX4_reckonBase 59 = .ok (.lmul, 1) := by decide +kernel
theorem dX4_reckonBase_60 : decode cX4_reckonBase 60 = .ok (.aload_n 0, 1) := by decide +kernel
theorem dX4_reckonBase_61 : decode cX4_reckonBase 61 = .ok (.getfield 12, 3) := by decide +kernel
theorem dX4_reckonBase_64 : decode cX4_reckonBase 64 = .ok (.getfield 97, 3) := by decide +kernel
theorem dX4_reckonBase_67 : decode cX4_reckonBase 67 = .ok (.lmul, 1) := by decide +kernel
theorem dX4_reckonBase_68 : decode cX4_reckonBase 68 = .ok (.ladd, 1) := by decide +kernel
theorem dX4_reckonBase_69 : decode cX4_reckonBase 69 = .ok (.ldc2_w 81, 3) := by decide +kernel
theorem dX4_reckonBase_72 : decode cX4_reckonBase 72 = .ok (.aload_n 0, 1) := by decide +kernel
theorem dX4_reckonBase_73 : decode cX4_reckonBase 73 = .ok (.getfield 12, 3) := by decide +kernel
theorem dX4_reckonBase_76 : decode cX4_reckonBase 76 = .ok (.getfield 97, 3) := by decide +kernel
theorem dX4_reckonBase_79 : decode cX4_reckonBase 79 = .ok (.lmul, 1) := by decide +kernel
theorem dX4_reckonBase_80 : decode cX4_reckonBase 80 = .ok (.aload_n 2, 1) := by decide +kernel
theorem dX4_reckonBase_81 : decode cX4_reckonBase 81 = .ok (.getfield 97, 3) := by decide +kernel
theorem dX4_reckonBase_84 : decode cX4_reckonBase 84 = .ok (.lmul, 1) := by decide +kernel
theorem dX4_reckonBase_85 : decode cX4_reckonBase 85 = .ok (.invokevirtual 74, 3) := by decide +kernel
theorem dX4_reckonBase_88 : decode cX4_reckonBase 88 = .ok (.return_, 1) := by decide +kernel
theorem dX4_putOff_0 : decode cX4_putOff 0 = .ok (.aload_n 1, 1) := by decide +kernel
theorem dX4_putOff_1 : decode cX4_putOff 1 = .ok (.invokevirtual 78, 3) := by decide +kernel
theorem dX4_putOff_4 : decode cX4_putOff 4 = .ok (.aload_n 0, 1) := by decide +kernel
theorem dX4_putOff_5 : decode cX4_putOff 5 = .ok (.getfield 12, 3) := by decide +kernel
theorem dX4_putOff_8 : decode cX4_putOff 8 = .ok (.invokevirtual 87, 3) := by decide +kernel
theorem dX4_putOff_11 : decode cX4_putOff 11 = .ok (.ifCond .ne 53, 3) := by decide +kernel
theorem dX4_putOff_14 : decode cX4_putOff 14 = .ok (.aload_n 1, 1) := by decide +kernel
theorem dX4_putOff_15 : decode cX4_putOff 15 = .ok (.aload_n 0, 1) := by decide +kernel
theorem dX4_putOff_16 : decode cX4_putOff 16 = .ok (.getfield 44, 3) := by decide +kernel
theorem dX4_putOff_19 : decode cX4_putOff 19 = .ok (.ldc2_w 81, 3) := by decide +kernel
theorem dX4_putOff_22 : decode cX4_putOff 22 = .ok (.aload_n 0, 1) := by decide +kernel
theorem dX4_putOff_23 : decode cX4_putOff 23 = .ok (.getfield 25, 3) := by decide +kernel
theorem dX4_putOff_26 : decode cX4_putOff 26 = .ok (.i2l, 1) := by decide +kernel
theorem dX4_putOff_27 : decode cX4_putOff 27 = .ok (.lmul, 1) := by decide +kernel
theorem dX4_putOff_28 : decode cX4_putOff 28 = .ok (.lsub, 1) := by decide +kernel
theorem dX4_putOff_29 : decode cX4_putOff 29 = .ok (.aload_n 0, 1) := by decide +kernel
theorem dX4_putOff_30 : decode cX4_putOff 30 = .ok (.getfield 12, 3) := by decide +kernel
theorem dX4_putOff_33 : decode cX4_putOff 33 = .ok (.getfield 97, 3) := by decide +kernel
theorem dX4_putOff_36 : decode cX4_putOff 36 = .ok (.lmul, 1) := by decide +kernel
theorem dX4_putOff_37 : decode cX4_putOff 37 = .ok (.aload_n 0, 1) := by decide +kernel
theorem dX4_putOff_38 : decode cX4_putOff 38 = .ok (.getfield 47, 3) := by decide +kernel
theorem dX4_putOff_41 : decode cX4_putOff 41 = .ok (.aload_n 0, 1) := by decide +kernel
theorem dX4_putOff_42 : decode cX4_putOff 42 = .ok (.getfield 12, 3) := by decide +kernel
theorem dX4_putOff_45 : decode cX4_putOff 45 = .ok (.getfield 94, 3) := by decide +kernel
theorem dX4_putOff_48 : decode cX4_putOff 48 = .ok (.lmul, 1) := by decide +kernel
theorem dX4_putOff_49 : decode cX4_putOff 49 = .ok (.ladd, 1) := by decide +kernel
theorem dX4_putOff_50 : decode cX4_putOff 50 = .ok (.ldc2_w 81, 3) := by decide +kernel
theorem dX4_putOff_53 : decode cX4_putOff 53 = .ok (.aload_n 0, 1) := by decide +kernel
theorem dX4_putOff_54 : decode cX4_putOff 54 = .ok (.getfield 12, 3) := by decide +kernel
theorem dX4_putOff_57 : decode cX4_putOff 57 = .ok (.getfield 97, 3) := by decide +kernel
theorem dX4_putOff_60 : decode cX4_putOff 60 = .ok (.lmul, 1) := by decide +kernel
theorem dX4_putOff_61 : decode cX4_putOff 61 = .ok (.invokevirtual 74, 3) := by decide +kernel
theorem dX4_putOff_64 : decode cX4_putOff 64 = .ok (.return_, 1) := by decide +kernel
theorem dX5_init_0 : decode cX5_init 0 = .ok (.aload_n 0, 1) := by decide +kernel
theorem dX5_init_1 : decode cX5_init 1 = .ok (.invokespecial 3, 3) := by decide +kernel
theorem dX5_init_4 : decode cX5_init 4 = .ok (.return_, 1) := by decide +kernel
theorem dX5_put_0 : decode cX5_put 0 = .ok (.aload_n 0, 1) := by decide +kernel
theorem dX5_put_1 : decode cX5_put 1 = .ok (.lload_n 1, 1) := by decide +kernel
theorem dX5_put_2 : decode cX5_put 2 = .ok (.putfield 9, 3) := by decide +kernel
theorem dX5_put_5 : decode cX5_put 5 = .ok (.aload_n 0, 1) := by decide +kernel
theorem dX5_put_6 : decode cX5_put 6 = .ok (.lload_n 3, 1) := by decide +kernel
theorem dX5_put_7 : decode cX5_put 7 = .ok (.putfield 15, 3) := by decide +kernel
theorem dX5_put_10 : decode cX5_put 10 = .ok (.return_, 1) := by decide +kernel
theorem dX5_putNone_0 : decode cX5_putNone 0 = .ok (.aload_n 0, 1) := by decide +kernel
theorem dX5_putNone_1 : decode cX5_putNone 1 = .ok (.lconst 0, 1) := by decide +kernel
theorem dX5_putNone_2 : decode cX5_putNone 2 = .ok (.putfield 9, 3) := by decide +kernel
theorem dX5_putNone_5 : decode cX5_putNone 5 = .ok (.aload_n 0, 1) := by decide +kernel
theorem dX5_putNone_6 : decode cX5_putNone 6 = .ok (.lconst 0, 1) := by decide +kernel
theorem dX5_putNone_7 : decode cX5_putNone 7 = .ok (.putfield 15, 3) := by decide +kernel
theorem dX5_putNone_10 : decode cX5_putNone 10 = .ok (.return_, 1) := by decide +kernel
theorem dX5_isNone_0 : decode cX5_isNone 0 = .ok (.aload_n 0, 1) := by decide +kernel
theorem dX5_isNone_1 : decode cX5_isNone 1 = .ok (.getfield 15, 3) := by decide +kernel
theorem dX5_isNone_4 : decode cX5_isNone 4 = .ok (.lconst 0, 1) := by decide +kernel
theorem dX5_isNone_5 : decode cX5_isNone 5 = .ok (.lcmp, 1) := by decide +kernel
theorem dX5_isNone_6 : decode cX5_isNone 6 = .ok (.ifCond .gt 7, 3) := by decide +kernel
theorem dX5_isNone_9 : decode cX5_isNone 9 = .ok (.iconst 1, 1) := by decide +kernel
theorem dX5_isNone_10 : decode cX5_isNone 10 = .ok (.goto 4, 3) := by decide +kernel
theorem dX5_isNone_13 : decode cX5_isNone 13 = .ok (.iconst 0, 1) := by decide +kernel
theorem dX5_isNone_14 : decode cX5_isNone 14 = .ok (.ireturn, 1) := by decide +kernel
theorem dX5_part_0 : decode cX5_part 0 = .ok (.aload_n 0, 1) := by decide +kernel
theorem dX5_part_1 : decode cX5_part 1 = .ok (.invokevirtual 18, 3) := by decide +kernel
theorem dX5_part_4 : decode cX5_part 4 = .ok (.ifCond .eq 7, 3) := by decide +kernel
theorem dX5_part_7 : decode cX5_part 7 = .ok (.ldc2_w 22, 3) := by decide +kernel
theorem dX5_part_10 : decode cX5_part 10 = .ok (.lreturn, 1) := by decide +kernel
theorem dX5_part_11 : decode cX5_part 11 = .ok (.aload_n 0, 1) := by decide +kernel
theorem dX5_part_12 : decode cX5_part 12 = .ok (.invokevirtual 24, 3) := by decide +kernel
theorem dX5_part_15 : decode cX5_part 15 = .ok (.lstore_n 2, 1) := by decide +kernel
theorem dX5_part_16 : decode cX5_part 16 = .ok (.iload_n 1, 1) := by decide +kernel
theorem dX5_part_17 : decode cX5_part 17 = .ok (.ifCond .eq 10, 3) := by decide +kernel
theorem dX5_part_20 : decode cX5_part 20 = .ok (.aload_n 0, 1) := by decide +kernel
theorem dX5_part_21 : decode cX5_part 21 = .ok (.getfield 15, 3) := by decide +kernel
theorem dX5_part_24 : decode cX5_part 24 = .ok (.goto 7, 3) := by decide +kernel
theorem dX5_part_27 : decode cX5_part 27 = .ok (.aload_n 0, 1) := by decide +kernel
theorem dX5_part_28 : decode cX5_part 28 = .ok (.getfield 9, 3) := by decide +kernel
theorem dX5_part_31 : decode cX5_part 31 = .ok (.lstore 4, 2) := by decide +kernel
theorem dX5_part_33 : decode cX5_part 33 = .ok (.lload_n 2, 1) := by decide +kernel
theorem dX5_part_34 : decode cX5_part 34 = .ok (.lconst 0, 1) := by decide +kernel
theorem dX5_part_35 : decode cX5_part 35 = .ok (.lcmp, 1) := by decide +kernel
theorem dX5_part_36 : decode cX5_part 36 = .ok (.ifCond .le 10, 3) := by decide +kernel
theorem dX5_part_39 : decode cX5_part 39 = .ok (.lload 4, 2) := by decide +kernel
theorem dX5_part_41 : decode cX5_part 41 = .ok (.lload_n 2, 1) := by decide +kernel
theorem dX5_part_42 : decode cX5_part 42 = .ok (.ldiv, 1) := by decide +kernel
theorem dX5_part_43 : decode cX5_part 43 = .ok (.goto 5, 3) := by decide +kernel
theorem dX5_part_46 : decode cX5_part 46 = .ok (.lload 4, 2) := by decide +kernel
theorem dX5_part_48 : decode cX5_part 48 = .ok (.lreturn, 1) := by decide +kernel
theorem dX5_commonDivisor_0 : decode cX5_commonDivisor 0 = .ok (.aload_n 0, 1) := by decide +kernel
theorem dX5_commonDivisor_1 : decode cX5_commonDivisor 1 = .ok (.getfield 15, 3) := by decide +kernel
theorem dX5_commonDivisor_4 : decode cX5_commonDivisor 4 = .ok (.lstore_n 1, 1) := by decide +kernel
theorem dX5_commonDivisor_5 : decode cX5_commonDivisor 5 = .ok (.aload_n 0, 1) := by decide +kernel
theorem dX5_commonDivisor_6 : decode cX5_commonDivisor 6 = .ok (.getfield 9, 3) := by decide +kernel
theorem dX5_commonDivisor_9 : decode cX5_commonDivisor 9 = .ok (.invokestatic 28, 3) := by decide +kernel
theorem dX5_commonDivisor_12 : decode cX5_commonDivisor 12 = .ok (.lstore_n 3, 1) := by decide +kernel
theorem dX5_commonDivisor_13 : decode cX5_commonDivisor 13 = .ok (.iconst 0, 1) := by decide +kernel
theorem dX5_commonDivisor_14 : decode cX5_commonDivisor 14 = .ok (.istore 5, 2) := by decide +kernel
theorem dX5_commonDivisor_16 : decode cX5_commonDivisor 16 = .ok (.iload 5, 2) := by decide +kernel
theorem dX5_commonDivisor_18 : decode cX5_commonDivisor 18 = .ok (.sipush 200, 3) := by decide +kernel
theorem dX5_commonDivisor_21 : decode cX5_commonDivisor 21 = .ok (.if_icmp .ge 25, 3) := by decide +kernel
theorem dX5_commonDivisor_24 : decode cX5_commonDivisor 24 = .ok (.lload_n 3, 1) := by decide +kernel
theorem dX5_commonDivisor_25 : decode cX5_commonDivisor 25 = .ok (.lconst 0, 1) := by decide +kernel
theorem dX5_commonDivisor_26 : decode cX5_commonDivisor 26 = .ok (.lcmp, 1) := by decide +kernel
theorem dX5_commonDivisor_27 : decode cX5_commonDivisor 27 = .ok (.ifCond .le 19, 3) := by decide +kernel
theorem dX5_commonDivisor_30 : decode cX5_commonDivisor 30 = .ok (.lload_n 1, 1) := by decide +kernel
theorem dX5_commonDivisor_31 : decode cX5_commonDivisor 31 = .ok (.lload_n 3, 1) := by decide +kernel
theorem dX5_commonDivisor_32 : decode cX5_commonDivisor 32 = .ok (.lrem, 1) := by decide +kernel
theorem dX5_commonDivisor_33 : decode cX5_commonDivisor 33 = .ok (.lstore 6, 2) := by decide +kernel
theorem dX5_commonDivisor_35 : decode cX5_commonDivisor 35 = .ok (.lload_n 3, 1) := by decide +kernel
theorem dX5_commonDivisor_36 : decode cX5_commonDivisor 36 = .ok (.lstore_n 1, 1) := by decide +kernel
theorem dX5_commonDivisor_37 : decode cX5_commonDivisor 37 = .ok (.lload 6, 2) := by decide +kernel
theorem dX5_commonDivisor_39 : decode cX5_commonDivisor 39 = .ok (.lstore_n 3, 1) := by decide +kernel
theorem dX5_commonDivisor_40 : decode cX5_commonDivisor 40 = .ok (.iinc 5 1, 3) := by decide +kernel
theorem dX5_commonDivisor_43 : decode cX5_commonDivisor 43 = .ok (.goto (-27), 3) := by decide +kernel
theorem dX5_commonDivisor_46 : decode cX5_commonDivisor 46 = .ok (.lload_n 1, 1) := by decide +kernel
theorem dX5_commonDivisor_47 : decode cX5_commonDivisor 47 = .ok (.lreturn, 1) := by decide +kernel
theorem dX5_inThousandths_0 : decode cX5_inThousandths 0 = .ok (.aload_n 0, 1) := by decide +kernel
theorem dX5_inThousandths_1 : decode cX5_inThousandths 1 = .ok (.invokevirtual 18, 3) := by decide +kernel
theorem dX5_inThousandths_4 : decode cX5_inThousandths 4 = .ok (.ifCond .eq 6, 3) := by decide +kernel
theorem dX5_inThousandths_7 : decode cX5_inThousandths 7 = .ok (.bipush (-2), 2) := by decide +kernel
theorem dX5_inThousandths_9 : decode cX5_inThousandths 9 = .ok (.ireturn, 1) := by decide +kernel
theorem dX5_inThousandths_10 : decode cX5_inThousandths 10 = .ok (.aload_n 0, 1) := by decide +kernel
theorem dX5_inThousandths_11 : decode cX5_inThousandths 11 = .ok (.getfield 9, 3) := by decide +kernel
theorem dX5_inThousandths_14 : decode cX5_inThousandths 14 = .ok (.aload_n 0, 1) := by decide +kernel
theorem dX5_inThousandths_15 : decode cX5_inThousandths 15 = .ok (.getfield 15, 3) := by decide +kernel
theorem dX5_inThousandths_18 : decode cX5_inThousandths 18 = .ok (.ldiv, 1) := by decide +kernel
theorem dX5_inThousandths_19 : decode cX5_inThousandths 19 = .ok (.ldc2_w 34, 3) := by decide +kernel
theorem dX5_inThousandths_22 : decode cX5_inThousandths 22 = .ok (.lmul, 1) := by decide +kernel
theorem dX5_inThousandths_23 : decode cX5_inThousandths 23 = .ok (.aload_n 0, 1) := by decide +kernel
theorem dX5_inThousandths_24 : decode cX5_inThousandths 24 = .ok (.getfield 9, 3) := by decide +kernel
theorem dX5_inThousandths_27 : decode cX5_inThousandths 27 = .ok (.aload_n 0, 1) := by decide +kernel
theorem dX5_inThousandths_28 : decode cX5_inThousandths 28 = .ok (.getfield 15, 3) := by decide +kernel
theorem dX5_inThousandths_31 : decode cX5_inThousandths 31 = .ok (.lrem, 1) := by decide +kernel
theorem dX5_inThousandths_32 : decode cX5_inThousandths 32 = .ok (.ldc2_w 34, 3) := by decide +kernel
theorem dX5_inThousandths_35 : decode cX5_inThousandths 35 = .ok (.lmul, 1) := by decide +kernel
theorem dX5_inThousandths_36 : decode cX5_inThousandths 36 = .ok (.aload_n 0, 1) := by decide +kernel
theorem dX5_inThousandths_37 : decode cX5_inThousandths 37 = .ok (.getfield 15, 3) := by decide +kernel
theorem dX5_inThousandths_40 : decode cX5_inThousandths 40 = .ok (.ldiv, 1) := by decide +kernel
theorem dX5_inThousandths_41 : decode cX5_inThousandths 41 = .ok (.ladd, 1) := by decide +kernel
theorem dX5_inThousandths_42 : decode cX5_inThousandths 42 = .ok (.l2i, 1) := by decide +kernel
theorem dX5_inThousandths_43 : decode cX5_inThousandths 43 = .ok (.ireturn, 1) := by decide +kernel
theorem dX5_compareWith_0 : decode cX5_compareWith 0 = .ok (.aload_n 0, 1) := by decide +kernel
theorem dX5_compareWith_1 : decode cX5_compareWith 1 = .ok (.invokevirtual 18, 3) := by decide +kernel
theorem dX5_compareWith_4 : decode cX5_compareWith 4 = .ok (.ifCond .ne 10, 3) := by decide +kernel
theorem dX5_compareWith_7 : decode cX5_compareWith 7 = .ok (.aload_n 1, 1) := by decide +kernel
theorem dX5_compareWith_8 : decode cX5_compareWith 8 = .ok (.invokevirtual 18, 3) := by decide +kernel
theorem dX5_compareWith_11 : decode cX5_compareWith 11 = .ok (.ifCond .eq 5, 3) := by decide +kernel
theorem dX5_compareWith_14 : decode cX5_compareWith 14 = .ok (.iconst 0, 1) := by decide +kernel
theorem dX5_compareWith_15 : decode cX5_compareWith 15 = .ok (.ireturn, 1) := by decide +kernel
theorem dX5_compareWith_16 : decode cX5_compareWith 16 = .ok (.aload_n 0, 1) := by decide +kernel
theorem dX5_compareWith_17 : decode cX5_compareWith 17 = .ok (.getfield 9, 3) := by decide +kernel
theorem dX5_compareWith_20 : decode cX5_compareWith 20 = .ok (.lstore_n 2, 1) := by decide +kernel
theorem dX5_compareWith_21 : decode cX5_compareWith 21 = .ok (.aload_n 0, 1) := by decide +kernel
theorem dX5_compareWith_22 : decode cX5_compareWith 22 = .ok (.getfield 15, 3) := by decide +kernel
theorem dX5_compareWith_25 : decode cX5_compareWith 25 = .ok (.lstore 4, 2) := by decide +kernel
theorem dX5_compareWith_27 : decode cX5_compareWith 27 = .ok (.aload_n 1, 1) := by decide +kernel
theorem dX5_compareWith_28 : decode cX5_compareWith 28 = .ok (.getfield 9, 3) := by decide +kernel
theorem dX5_compareWith_31 : decode cX5_compareWith 31 = .ok (.lstore 6, 2) := by decide +kernel
theorem dX5_compareWith_33 : decode cX5_compareWith 33 = .ok (.aload_n 1, 1) := by decide +kernel
theorem dX5_compareWith_34 : decode cX5_compareWith 34 = .ok (.getfield 15, 3) := by decide +kernel
theorem dX5_compareWith_37 : decode cX5_compareWith 37 = .ok (.lstore 8, 2) := by decide +kernel
theorem dX5_compareWith_39 : decode cX5_compareWith 39 = .ok (.iconst 1, 1) := by decide +kernel
theorem dX5_compareWith_40 : decode cX5_compareWith 40 = .ok (.istore 10, 2) := by decide +kernel
theorem dX5_compareWith_42 : decode cX5_compareWith 42 = .ok (.iconst 0, 1) := by decide +kernel
theorem dX5_compareWith_43 : decode cX5_compareWith 43 = .ok (.istore 11, 2) := by decide +kernel
theorem dX5_compareWith_45 : decode cX5_compareWith 45 = .ok (.iload 11, 2) := by decide +kernel
theorem dX5_compareWith_47 : decode cX5_compareWith 47 = .ok (.sipush 200, 3) := by decide +kernel
theorem dX5_compareWith_50 : decode cX5_compareWith 50 = .ok (.if_icmp .ge 94, 3) := by decide +kernel
theorem dX5_compareWith_53 : decode cX5_compareWith 53 = .ok (.lload 4, 2) := by decide +kernel
theorem dX5_compareWith_55 : decode cX5_compareWith 55 = .ok (.lconst 0, 1) := by decide +kernel
theorem dX5_compareWith_56 : decode cX5_compareWith 56 = .ok (.lcmp, 1) := by decide +kernel
theorem dX5_compareWith_57 : decode cX5_compareWith 57 = .ok (.ifCond .le 87, 3) := by decide +kernel
theorem dX5_compareWith_60 : decode cX5_compareWith 60 = .ok (.lload 8, 2) := by decide +kernel
theorem dX5_compareWith_62 : decode cX5_compareWith 62 = .ok (.lconst 0, 1) := by decide +kernel
theorem dX5_compareWith_63 : decode cX5_compareWith 63 = .ok (.lcmp, 1) := by decide +kernel
theorem dX5_compareWith_64 : decode cX5_compareWith 64 = .ok (.ifCond .le 80, 3) := by decide +kernel
theorem dX5_compareWith_67 : decode cX5_compareWith 67 = .ok (.lload_n 2, 1) := by decide +kernel
theorem dX5_compareWith_68 : decode cX5_compareWith 68 = .ok (.lload 4, 2) := by decide +kernel
theorem dX5_compareWith_70 : decode cX5_compareWith 70 = .ok (.ldiv, 1) := by decide +kernel
theorem dX5_compareWith_71 : decode cX5_compareWith 71 = .ok (.lstore 12, 2) := by decide +kernel
theorem dX5_compareWith_73 : decode cX5_compareWith 73 = .ok (.lload 6, 2) := by decide +kernel
theorem dX5_compareWith_75 : decode cX5_compareWith 75 = .ok (.lload 8, 2) := by decide +kernel
theorem dX5_compareWith_77 : decode cX5_compareWith 77 = .ok (.ldiv, 1) := by decide +kernel
theorem dX5_compareWith_78 : decode cX5_compareWith 78 = .ok (.lstore 14, 2) := by decide +kernel
theorem dX5_compareWith_80 : decode cX5_compareWith 80 = .ok (.lload 12, 2) := by decide +kernel
theorem dX5_compareWith_82 : decode cX5_compareWith 82 = .ok (.lload 14, 2) := by decide +kernel
theorem dX5_compareWith_84 : decode cX5_compareWith 84 = .ok (.lcmp, 1) := by decide +kernel
theorem dX5_compareWith_85 : decode cX5_compareWith 85 = .ok (.ifCond .eq 20, 3) := by decide +kernel
theorem dX5_compareWith_88 : decode cX5_compareWith 88 = .ok (.lload 12, 2) := by decide +kernel
theorem dX5_compareWith_90 : decode cX5_compareWith 90 = .ok (.lload 14, 2) := by decide +kernel
theorem dX5_compareWith_92 : decode cX5_compareWith 92 = .ok (.lcmp, 1) := by decide +kernel
theorem dX5_compareWith_93 : decode cX5_compareWith 93 = .ok (.ifCond .le 8, 3) := by decide +kernel
theorem dX5_compareWith_96 : decode cX5_compareWith 96 = .ok (.iload 10, 2) := by decide +kernel
theorem dX5_compareWith_98 : decode cX5_compareWith 98 = .ok (.goto 6, 3) := by decide +kernel
theorem dX5_compareWith_101 : decode cX5_compareWith 101 = .ok (.iload 10, 2) := by decide +kernel
theorem dX5_compareWith_103 : decode cX5_compareWith 103 = .ok (.ineg, 1) := by decide +kernel
theorem dX5_compareWith_104 : decode cX5_compareWith 104 = .ok (.ireturn, 1) := by decide +kernel
theorem dX5_compareWith_105 : decode cX5_compareWith 105 = .ok (.lload_n 2, 1) := by decide +kernel
theorem dX5_compareWith_106 : decode cX5_compareWith 106 = .ok (.lload 4, 2) := by decide +kernel
theorem dX5_compareWith_108 : decode cX5_compareWith 108 = .ok (.lrem, 1) := by decide +kernel
theorem dX5_compareWith_109 : decode cX5_compareWith 109 = .ok (.lstore 16, 2) := by decide +kernel
theorem dX5_compareWith_111 : decode cX5_compareWith 111 = .ok (.lload 6, 2) := by decide +kernel
theorem dX5_compareWith_113 : decode cX5_compareWith 113 = .ok (.lload 8, 2) := by decide +kernel
theorem dX5_compareWith_115 : decode cX5_compareWith 115 = .ok (.lrem, 1) := by decide +kernel
theorem dX5_compareWith_116 : decode cX5_compareWith 116 = .ok (.lstore 18, 2) := by decide +kernel
theorem dX5_compareWith_118 : decode cX5_compareWith 118 = .ok (.lload 4, 2) := by decide +kernel
theorem dX5_compareWith_120 : decode cX5_compareWith 120 = .ok (.lstore_n 2, 1) := by decide +kernel
theorem dX5_compareWith_121 : decode cX5_compareWith 121 = .ok (.lload 16, 2) := by decide +kernel
theorem dX5_compareWith_123 : decode cX5_compareWith 123 = .ok (.lstore 4, 2) := by decide +kernel
theorem dX5_compareWith_125 : decode cX5_compareWith 125 = .ok (.lload 8, 2) := by decide +kernel
theorem dX5_compareWith_127 : decode cX5_compareWith 127 = .ok (.lstore 6, 2) := by decide +kernel
theorem dX5_compareWith_129 : decode cX5_compareWith 129 = .ok (.lload 18, 2) := by decide +kernel
theorem dX5_compareWith_131 : decode cX5_compareWith 131 = .ok (.lstore 8, 2) := by decide +kernel
theorem dX5_compareWith_133 : decode cX5_compareWith 133 = .ok (.iload 10, 2) := by decide +kernel
theorem dX5_compareWith_135 : decode cX5_compareWith 135 = .ok (.ineg, 1) := by decide +kernel
theorem dX5_compareWith_136 : decode cX5_compareWith 136 = .ok (.istore 10, 2) := by decide +kernel
theorem dX5_compareWith_138 : decode cX5_compareWith 138 = .ok (.iinc 11 1, 3) := by decide +kernel
theorem dX5_compareWith_141 : decode cX5_compareWith 141 = .ok (.goto (-96), 3) := by decide +kernel
theorem dX5_compareWith_144 : decode cX5_compareWith 144 = .ok (.lload 4, 2) := by decide +kernel
theorem dX5_compareWith_146 : decode cX5_compareWith 146 = .ok (.lconst 0, 1) := by decide +kernel
theorem dX5_compareWith_147 : decode cX5_compareWith 147 = .ok (.lcmp, 1) := by decide +kernel
theorem dX5_compareWith_148 : decode cX5_compareWith 148 = .ok (.ifCond .ne 12, 3) := by decide +kernel
theorem dX5_compareWith_151 : decode cX5_compareWith 151 = .ok (.lload 8, 2) := by decide +kernel
theorem dX5_compareWith_153 : decode cX5_compareWith 153 = .ok (.lconst 0, 1) := by decide +kernel
theorem dX5_compareWith_154 : decode cX5_compareWith 154 = .ok (.lcmp, 1) := by decide +kernel
theorem dX5_compareWith_155 : decode cX5_compareWith 155 = .ok (.ifCond .ne 5, 3) := by decide +kernel
theorem dX5_compareWith_158 : decode cX5_compareWith 158 = .ok (.iconst 0, 1) := by decide +kernel
theorem dX5_compareWith_159 : decode cX5_compareWith 159 = .ok (.ireturn, 1) := by decide +kernel
theorem dX5_compareWith_160 : decode cX5_compareWith 160 = .ok (.lload 4, 2) := by decide +kernel
theorem dX5_compareWith_162 : decode cX5_compareWith 162 = .ok (.lconst 0, 1) := by decide +kernel
theorem dX5_compareWith_163 : decode cX5_compareWith 163 = .ok (.lcmp, 1) := by decide +kernel
theorem dX5_compareWith_164 : decode cX5_compareWith 164 = .ok (.ifCond .ne 8, 3) := by decide +kernel
theorem dX5_compareWith_167 : decode cX5_compareWith 167 = .ok (.iload 10, 2) := by decide +kernel
theorem dX5_compareWith_169 : decode cX5_compareWith 169 = .ok (.goto 6, 3) := by decide +kernel
theorem dX5_compareWith_172 : decode cX5_compareWith 172 = .ok (.iload 10, 2) := by decide +kernel
theorem dX5_compareWith_174 : decode cX5_compareWith 174 = .ok (.ineg, 1) := by decide +kernel
theorem dX5_compareWith_175 : decode cX5_compareWith 175 = .ok (.ireturn, 1) := by decide +kernel
theorem dX6_init_0 : decode cX6_init 0 = .ok (.aload_n 0, 1) := by decide +kernel
theorem dX6_init_1 : decode cX6_init 1 = .ok (.invokespecial 3, 3) := by decide +kernel
theorem dX6_init_4 : decode cX6_init 4 = .ok (.aload_n 0, 1) := by decide +kernel
theorem dX6_init_5 : decode cX6_init 5 = .ok (.sipush 700, 3) := by decide +kernel
theorem dX6_init_8 : decode cX6_init 8 = .ok (.newarray .byte, 2) := by decide +kernel
theorem dX6_init_10 : decode cX6_init 10 = .ok (.putfield 9, 3) := by decide +kernel
theorem dX6_init_13 : decode cX6_init 13 = .ok (.return_, 1) := by decide +kernel
theorem dX6_size_0 : decode cX6_size 0 = .ok (.aload_n 0, 1) := by decide +kernel
theorem dX6_size_1 : decode cX6_size 1 = .ok (.getfield 15, 3) := by decide +kernel
theorem dX6_size_4 : decode cX6_size 4 = .ok (.ireturn, 1) := by decide +kernel
theorem dX6_addFour_0 : decode cX6_addFour 0 = .ok (.aload_n 0, 1) := by decide +kernel
theorem dX6_addFour_1 : decode cX6_addFour 1 = .ok (.iload_n 1, 1) := by decide +kernel
theorem dX6_addFour_2 : decode cX6_addFour 2 = .ok (.bipush 24, 2) := by decide +kernel
theorem dX6_addFour_4 : decode cX6_addFour 4 = .ok (.iushr, 1) := by decide +kernel
theorem dX6_addFour_5 : decode cX6_addFour 5 = .ok (.invokevirtual 19, 3) := by decide +kernel
theorem dX6_addFour_8 : decode cX6_addFour 8 = .ok (.aload_n 0, 1) := by decide +kernel
theorem dX6_addFour_9 : decode cX6_addFour 9 = .ok (.iload_n 1, 1) := by decide +kernel
theorem dX6_addFour_10 : decode cX6_addFour 10 = .ok (.bipush 16, 2) := by decide +kernel
theorem dX6_addFour_12 : decode cX6_addFour 12 = .ok (.iushr, 1) := by decide +kernel
theorem dX6_addFour_13 : decode cX6_addFour 13 = .ok (.invokevirtual 19, 3) := by decide +kernel
theorem dX6_addFour_16 : decode cX6_addFour 16 = .ok (.aload_n 0, 1) := by decide +kernel
theorem dX6_addFour_17 : decode cX6_addFour 17 = .ok (.iload_n 1, 1) := by decide +kernel
theorem dX6_addFour_18 : decode cX6_addFour 18 = .ok (.bipush 8, 2) := by decide +kernel
theorem dX6_addFour_20 : decode cX6_addFour 20 = .ok (.iushr, 1) := by decide +kernel
theorem dX6_addFour_21 : decode cX6_addFour 21 = .ok (.invokevirtual 19, 3) := by decide +kernel
theorem dX6_addFour_24 : decode cX6_addFour 24 = .ok (.aload_n 0, 1) := by decide +kernel
theorem dX6_addFour_25 : decode cX6_addFour 25 = .ok (.iload_n 1, 1) := by decide +kernel
theorem dX6_addFour_26 : decode cX6_addFour 26 = .ok (.invokevirtual 19, 3) := by decide +kernel
theorem dX6_addFour_29 : decode cX6_addFour 29 = .ok (.return_, 1) := by decide +kernel
theorem dX6_addByte_0 : decode cX6_addByte 0 = .ok (.aload_n 0, 1) := by decide +kernel
theorem dX6_addByte_1 : decode cX6_addByte 1 = .ok (.getfield 15, 3) := by decide +kernel
theorem dX6_addByte_4 : decode cX6_addByte 4 = .ok (.aload_n 0, 1) := by decide +kernel
theorem dX6_addByte_5 : decode cX6_addByte 5 = .ok (.getfield 9, 3) := by decide +kernel
theorem dX6_addByte_8 : decode cX6_addByte 8 = .ok (.arraylength, 1) := by decide +kernel
theorem dX6_addByte_9 : decode cX6_addByte 9 = .ok (.if_icmp .ge 24, 3) := by decide +kernel
theorem dX6_addByte_12 : decode cX6_addByte 12 = .ok (.aload_n 0, 1) := by decide +kernel
theorem dX6_addByte_13 : decode cX6_addByte 13 = .ok (.getfield 9, 3) := by decide +kernel
theorem dX6_addByte_16 : decode cX6_addByte 16 = .ok (.aload_n 0, 1) := by decide +kernel
theorem dX6_addByte_17 : decode cX6_addByte 17 = .ok (.getfield 15, 3) := by decide +kernel
theorem dX6_addByte_20 : decode cX6_addByte 20 = .ok (.iload_n 1, 1) := by decide +kernel
theorem dX6_addByte_21 : decode cX6_addByte 21 = .ok (.i2b, 1) := by decide +kernel
theorem dX6_addByte_22 : decode cX6_addByte 22 = .ok (.bastore, 1) := by decide +kernel
theorem dX6_addByte_23 : decode cX6_addByte 23 = .ok (.aload_n 0, 1) := by decide +kernel
theorem dX6_addByte_24 : decode cX6_addByte 24 = .ok (.dup, 1) := by decide +kernel
theorem dX6_addByte_25 : decode cX6_addByte 25 = .ok (.getfield 15, 3) := by decide +kernel
theorem dX6_addByte_28 : decode cX6_addByte 28 = .ok (.iconst 1, 1) := by decide +kernel
theorem dX6_addByte_29 : decode cX6_addByte 29 = .ok (.iadd, 1) := by decide +kernel
theorem dX6_addByte_30 : decode cX6_addByte 30 = .ok (.putfield 15, 3) := by decide +kernel
theorem dX6_addByte_33 : decode cX6_addByte 33 = .ok (.return_, 1) := by decide +kernel
theorem dX6_dropLast_0 : decode cX6_dropLast 0 = .ok (.iload_n 1, 1) := by decide +kernel
theorem dX6_dropLast_1 : decode cX6_dropLast 1 = .ok (.ifCond .lt 21, 3) := by decide +kernel
theorem dX6_dropLast_4 : decode cX6_dropLast 4 = .ok (.iload_n 1, 1) := by decide +kernel
theorem dX6_dropLast_5 : decode cX6_dropLast 5 = .ok (.aload_n 0, 1) := by decide +kernel
theorem dX6_dropLast_6 : decode cX6_dropLast 6 = .ok (.getfield 15, 3) := by decide +kernel
theorem dX6_dropLast_9 : decode cX6_dropLast 9 = .ok (.if_icmp .gt 13, 3) := by decide +kernel
theorem dX6_dropLast_12 : decode cX6_dropLast 12 = .ok (.aload_n 0, 1) := by decide +kernel
theorem dX6_dropLast_13 : decode cX6_dropLast 13 = .ok (.dup, 1) := by decide +kernel
theorem dX6_dropLast_14 : decode cX6_dropLast 14 = .ok (.getfield 15, 3) := by decide +kernel
theorem dX6_dropLast_17 : decode cX6_dropLast 17 = .ok (.iload_n 1, 1) := by decide +kernel
theorem dX6_dropLast_18 : decode cX6_dropLast 18 = .ok (.isub, 1) := by decide +kernel
theorem dX6_dropLast_19 : decode cX6_dropLast 19 = .ok (.putfield 15, 3) := by decide +kernel
theorem dX6_dropLast_22 : decode cX6_dropLast 22 = .ok (.return_, 1) := by decide +kernel
theorem dX6_byteAt_0 : decode cX6_byteAt 0 = .ok (.iload_n 1, 1) := by decide +kernel
theorem dX6_byteAt_1 : decode cX6_byteAt 1 = .ok (.ifCond .lt 24, 3) := by decide +kernel
theorem dX6_byteAt_4 : decode cX6_byteAt 4 = .ok (.iload_n 1, 1) := by decide +kernel
theorem dX6_byteAt_5 : decode cX6_byteAt 5 = .ok (.aload_n 0, 1) := by decide +kernel
theorem dX6_byteAt_6 : decode cX6_byteAt 6 = .ok (.getfield 15, 3) := by decide +kernel
theorem dX6_byteAt_9 : decode cX6_byteAt 9 = .ok (.if_icmp .ge 16, 3) := by decide +kernel
theorem dX6_byteAt_12 : decode cX6_byteAt 12 = .ok (.aload_n 0, 1) := by decide +kernel
theorem dX6_byteAt_13 : decode cX6_byteAt 13 = .ok (.getfield 9, 3) := by decide +kernel
theorem dX6_byteAt_16 : decode cX6_byteAt 16 = .ok (.iload_n 1, 1) := by decide +kernel
theorem dX6_byteAt_17 : decode cX6_byteAt 17 = .ok (.baload, 1) := by decide +kernel
theorem dX6_byteAt_18 : decode cX6_byteAt 18 = .ok (.sipush 255, 3) := by decide +kernel
theorem dX6_byteAt_21 : decode cX6_byteAt 21 = .ok (.iand, 1) := by decide +kernel
theorem dX6_byteAt_22 : decode cX6_byteAt 22 = .ok (.goto 4, 3) := by decide +kernel
theorem dX6_byteAt_25 : decode cX6_byteAt 25 = .ok (.iconst (-1), 1) := by decide +kernel
theorem dX6_byteAt_26 : decode cX6_byteAt 26 = .ok (.ireturn, 1) := by decide +kernel
theorem dX6_readInto_0 : decode cX6_readInto 0 = .ok (.aload_n 1, 1) := by decide +kernel
theorem dX6_readInto_1 : decode cX6_readInto 1 = .ok (.invokevirtual 23, 3) := by decide +kernel
theorem dX6_readInto_4 : decode cX6_readInto 4 = .ok (.aload_n 0, 1) := by decide +kernel
theorem dX6_readInto_5 : decode cX6_readInto 5 = .ok (.iconst 0, 1) := by decide +kernel
theorem dX6_readInto_6 : decode cX6_readInto 6 = .ok (.putfield 28, 3) := by decide +kernel
theorem dX6_readInto_9 : decode cX6_readInto 9 = .ok (.aload_n 0, 1) := by decide +kernel
theorem dX6_readInto_10 : decode cX6_readInto 10 = .ok (.iconst (-1), 1) := by decide +kernel
theorem dX6_readInto_11 : decode cX6_readInto 11 = .ok (.putfield 31, 3) := by decide +kernel
theorem dX6_readInto_14 : decode cX6_readInto 14 = .ok (.aload_n 0, 1) := by decide +kernel
theorem dX6_readInto_15 : decode cX6_readInto 15 = .ok (.invokevirtual 34, 3) := by decide +kernel
theorem dX6_readInto_18 : decode cX6_readInto 18 = .ok (.iconst 0, 1) := by decide +kernel
theorem dX6_readInto_19 : decode cX6_readInto 19 = .ok (.istore_n 2, 1) := by decide +kernel
theorem dX6_readInto_20 : decode cX6_readInto 20 = .ok (.iload_n 2, 1) := by decide +kernel
theorem dX6_readInto_21 : decode cX6_readInto 21 = .ok (.aload_n 0, 1) := by decide +kernel
theorem dX6_readInto_22 : decode cX6_readInto 22 = .ok (.getfield 15, 3) := by decide +kernel
theorem dX6_readInto_25 : decode cX6_readInto 25 = .ok (.if_icmp .ge 37, 3) := by decide +kernel
theorem dX6_readInto_28 : decode cX6_readInto 28 = .ok (.aload_n 0, 1) := by decide +kernel
theorem dX6_readInto_29 : decode cX6_readInto 29 = .ok (.getfield 28, 3) := by decide +kernel
theorem dX6_readInto_32 : decode cX6_readInto 32 = .ok (.aload_n 0, 1) := by decide +kernel
theorem dX6_readInto_33 : decode cX6_readInto 33 = .ok (.getfield 15, 3) := by decide +kernel
theorem dX6_readInto_36 : decode cX6_readInto 36 = .ok (.if_icmp .ge 26, 3) := by decide +kernel
theorem dX6_readInto_39 : decode cX6_readInto 39 = .ok (.aload_n 0, 1) := by decide +kernel
theorem dX6_readInto_40 : decode cX6_readInto 40 = .ok (.getfield 31, 3) := by decide +kernel
theorem dX6_readInto_43 : decode cX6_readInto 43 = .ok (.iconst (-1), 1) := by decide +kernel
theorem dX6_readInto_44 : decode cX6_readInto 44 = .ok (.if_icmp .ne 18, 3) := by decide +kernel
theorem dX6_readInto_47 : decode cX6_readInto 47 = .ok (.aload_n 0, 1) := by decide +kernel
theorem dX6_readInto_48 : decode cX6_readInto 48 = .ok (.aload_n 1, 1) := by decide +kernel
theorem dX6_readInto_49 : decode cX6_readInto 49 = .ok (.invokevirtual 37, 3) := by decide +kernel
theorem dX6_readInto_52 : decode cX6_readInto 52 = .ok (.aload_n 0, 1) := by decide +kernel
theorem dX6_readInto_53 : decode cX6_readInto 53 = .ok (.invokevirtual 34, 3) := by decide +kernel
theorem dX6_readInto_56 : decode cX6_readInto 56 = .ok (.iinc 2 1, 3) := by decide +kernel
theorem dX6_readInto_59 : decode cX6_readInto 59 = .ok (.goto (-39), 3) := by decide +kernel
theorem dX6_readInto_62 : decode cX6_readInto 62 = .ok (.aload_n 0, 1) := by decide +kernel
theorem dX6_readInto_63 : decode cX6_readInto 63 = .ok (.getfield 31, 3) := by decide +kernel
theorem dX6_readInto_66 : decode cX6_readInto 66 = .ok (.ireturn, 1) := by decide +kernel
theorem dX6_readSentence_0 : decode cX6_readSentence 0 = .ok (.aload_n 0, 1) := by decide +kernel
theorem dX6_readSentence_1 : decode cX6_readSentence 1 = .ok (.aload_n 1, 1) := by decide +kernel
theorem dX6_readSentence_2 : decode cX6_readSentence 2 = .ok (.invokevirtual 41, 3) := by decide +kernel
theorem dX6_readSentence_5 : decode cX6_readSentence 5 = .ok (.tableswitch 75 0 3 #[31, 45, 59, 67], 31) := by decide +kernel
theorem dX6_readSentence_36 : decode cX6_readSentence 36 = .ok (.aload_n 1, 1) := by decide +kernel
theorem dX6_readSentence_37 : decode cX6_readSentence 37 = .ok (.aload_n 0, 1) := by decide +kernel
theorem dX6_readSentence_38 : decode cX6_readSentence 38 = .ok (.iconst 1, 1) := by decide +kernel
theorem dX6_readSentence_39 : decode cX6_readSentence 39 = .ok (.bipush 99, 2) := by decide +kernel
theorem dX6_readSentence_41 : decode cX6_readSentence 41 = .ok (.invokevirtual 45, 3) := by decide +kernel
theorem dX6_readSentence_44 : decode cX6_readSentence 44 = .ok (.putfield 49, 3) := by decide +kernel
theorem dX6_readSentence_47 : decode cX6_readSentence 47 = .ok (.goto 33, 3) := by decide +kernel
theorem dX6_readSentence_50 : decode cX6_readSentence 50 = .ok (.aload_n 1, 1) := by decide +kernel
theorem dX6_readSentence_51 : decode cX6_readSentence 51 = .ok (.aload_n 0, 1) := by decide +kernel
theorem dX6_readSentence_52 : decode cX6_readSentence 52 = .ok (.iconst 0, 1) := by decide +kernel
theorem dX6_readSentence_53 : decode cX6_readSentence 53 = .ok (.bipush 50, 2) := by decide +kernel
theorem dX6_readSentence_55 : decode cX6_readSentence 55 = .ok (.invokevirtual 45, 3) := by decide +kernel
theorem dX6_readSentence_58 : decode cX6_readSentence 58 = .ok (.putfield 52, 3) := by decide +kernel
theorem dX6_readSentence_61 : decode cX6_readSentence 61 = .ok (.goto 19, 3) := by decide +kernel
theorem dX6_readSentence_64 : decode cX6_readSentence 64 = .ok (.aload_n 0, 1) := by decide +kernel
theorem dX6_readSentence_65 : decode cX6_readSentence 65 = .ok (.aload_n 1, 1) := by decide +kernel
theorem dX6_readSentence_66 : decode cX6_readSentence 66 = .ok (.invokevirtual 55, 3) := by decide +kernel
theorem dX6_readSentence_69 : decode cX6_readSentence 69 = .ok (.goto 11, 3) := by decide +kernel
theorem dX6_readSentence_72 : decode cX6_readSentence 72 = .ok (.aload_n 0, 1) := by decide +kernel
theorem dX6_readSentence_73 : decode cX6_readSentence 73 = .ok (.aload_n 1, 1) := by decide +kernel
theorem dX6_readSentence_74 : decode cX6_readSentence 74 = .ok (.invokevirtual 58, 3) := by decide +kernel
theorem dX6_readSentence_77 : decode cX6_readSentence 77 = .ok (.goto 3, 3) := by decide +kernel
theorem dX6_readSentence_80 : decode cX6_readSentence 80 = .ok (.aload_n 0, 1) := by decide +kernel
theorem dX6_readSentence_81 : decode cX6_readSentence 81 = .ok (.invokevirtual 61, 3) := by decide +kernel
theorem dX6_readSentence_84 : decode cX6_readSentence 84 = .ok (.return_, 1) := by decide +kernel
theorem dX6_readWord_0 : decode cX6_readWord 0 = .ok (.aload_n 0, 1) := by decide +kernel
theorem dX6_readWord_1 : decode cX6_readWord 1 = .ok (.getfield 28, 3) := by decide +kernel
theorem dX6_readWord_4 : decode cX6_readWord 4 = .ok (.istore_n 2, 1) := by decide +kernel
theorem dX6_readWord_5 : decode cX6_readWord 5 = .ok (.aload_n 0, 1) := by decide +kernel
theorem dX6_readWord_6 : decode cX6_readWord 6 = .ok (.invokevirtual 64, 3) := by decide +kernel
theorem dX6_readWord_9 : decode cX6_readWord 9 = .ok (.iconst (-1), 1) := by decide +kernel
theorem dX6_readWord_10 : decode cX6_readWord 10 = .ok (.istore_n 3, 1) := by decide +kernel
theorem dX6_readWord_11 : decode cX6_readWord 11 = .ok (.aload_n 0, 1) := by decide +kernel
theorem dX6_readWord_12 : decode cX6_readWord 12 = .ok (.iload_n 2, 1) := by decide +kernel
theorem dX6_readWord_13 : decode cX6_readWord 13 = .ok (.ldc 67, 2) := by decide +kernel
theorem dX6_readWord_15 : decode cX6_readWord 15 = .ok (.invokevirtual 68, 3) := by decide +kernel
theorem dX6_readWord_18 : decode cX6_readWord 18 = .ok (.ifCond .eq 8, 3) := by decide +kernel
theorem dX6_readWord_21 : decode cX6_readWord 21 = .ok (.iconst 0, 1) := by decide +kernel
theorem dX6_readWord_22 : decode cX6_readWord 22 = .ok (.istore_n 3, 1) := by decide +kernel
theorem dX6_readWord_23 : decode cX6_readWord 23 = .ok (.goto 63, 3) := by decide +kernel
theorem dX6_readWord_26 : decode cX6_readWord 26 = .ok (.aload_n 0, 1) := by decide +kernel
theorem dX6_readWord_27 : decode cX6_readWord 27 = .ok (.iload_n 2, 1) := by decide +kernel
theorem dX6_readWord_28 : decode cX6_readWord 28 = .ok (.ldc 72, 2) := by decide +kernel
theorem dX6_readWord_30 : decode cX6_readWord 30 = .ok (.invokevirtual 68, 3) := by decide +kernel
theorem dX6_readWord_33 : decode cX6_readWord 33 = .ok (.ifCond .eq 8, 3) := by decide +kernel
theorem dX6_readWord_36 : decode cX6_readWord 36 = .ok (.iconst 1, 1) := by decide +kernel
theorem dX6_readWord_37 : decode cX6_readWord 37 = .ok (.istore_n 3, 1) := by decide +kernel
theorem dX6_readWord_38 : decode cX6_readWord 38 = .ok (.goto 48, 3) := by decide +kernel
theorem dX6_readWord_41 : decode cX6_readWord 41 = .ok (.aload_n 0, 1) := by decide +kernel
theorem dX6_readWord_42 : decode cX6_readWord 42 = .ok (.iload_n 2, 1) := by decide +kernel
theorem dX6_readWord_43 : decode cX6_readWord 43 = .ok (.ldc 73, 2) := by decide +kernel
theorem dX6_readWord_45 : decode cX6_readWord 45 = .ok (.invokevirtual 68, 3) := by decide +kernel
theorem dX6_readWord_48 : decode cX6_readWord 48 = .ok (.ifCond .eq 17, 3) := by decide +kernel
theorem dX6_readWord_51 : decode cX6_readWord 51 = .ok (.aload_n 1, 1) := by decide +kernel
theorem dX6_readWord_52 : decode cX6_readWord 52 = .ok (.getfield 75, 3) := by decide +kernel
theorem dX6_readWord_55 : decode cX6_readWord 55 = .ok (.bipush 8, 2) := by decide +kernel
theorem dX6_readWord_57 : decode cX6_readWord 57 = .ok (.if_icmp .ge 8, 3) := by decide +kernel
theorem dX6_readWord_60 : decode cX6_readWord 60 = .ok (.iconst 2, 1) := by decide +kernel
theorem dX6_readWord_61 : decode cX6_readWord 61 = .ok (.istore_n 3, 1) := by decide +kernel
theorem dX6_readWord_62 : decode cX6_readWord 62 = .ok (.goto 24, 3) := by decide +kernel
theorem dX6_readWord_65 : decode cX6_readWord 65 = .ok (.aload_n 0, 1) := by decide +kernel
theorem dX6_readWord_66 : decode cX6_readWord 66 = .ok (.iload_n 2, 1) := by decide +kernel
theorem dX6_readWord_67 : decode cX6_readWord 67 = .ok (.ldc 78, 2) := by decide +kernel
theorem dX6_readWord_69 : decode cX6_readWord 69 = .ok (.invokevirtual 68, 3) := by decide +kernel
theorem dX6_readWord_72 : decode cX6_readWord 72 = .ok (.ifCond .eq 14, 3) := by decide +kernel
theorem dX6_readWord_75 : decode cX6_readWord 75 = .ok (.aload_n 1, 1) := by decide +kernel
theorem dX6_readWord_76 : decode cX6_readWord 76 = .ok (.getfield 80, 3) := by decide +kernel
theorem dX6_readWord_79 : decode cX6_readWord 79 = .ok (.bipush 40, 2) := by decide +kernel
theorem dX6_readWord_81 : decode cX6_readWord 81 = .ok (.if_icmp .ge 5, 3) := by decide +kernel
theorem dX6_readWord_84 : decode cX6_readWord 84 = .ok (.iconst 3, 1) := by decide +kernel
theorem dX6_readWord_85 : decode cX6_readWord 85 = .ok (.istore_n 3, 1) := by decide +kernel
theorem dX6_readWord_86 : decode cX6_readWord 86 = .ok (.iload_n 3, 1) := by decide +kernel
theorem dX6_readWord_87 : decode cX6_readWord 87 = .ok (.iconst (-1), 1) := by decide +kernel
theorem dX6_readWord_88 : decode cX6_readWord 88 = .ok (.if_icmp .ne 11, 3) := by decide +kernel
theorem dX6_readWord_91 : decode cX6_readWord 91 = .ok (.aload_n 0, 1) := by decide +kernel
theorem dX6_readWord_92 : decode cX6_readWord 92 = .ok (.iload_n 2, 1) := by decide +kernel
theorem dX6_readWord_93 : decode cX6_readWord 93 = .ok (.invokevirtual 83, 3) := by decide +kernel
theorem dX6_readWord_96 : decode cX6_readWord 96 = .ok (.goto 25, 3) := by decide +kernel
theorem dX6_readWord_99 : decode cX6_readWord 99 = .ok (.aload_n 0, 1) := by decide +kernel
theorem dX6_readWord_100 : decode cX6_readWord 100 = .ok (.aload_n 0, 1) := by decide +kernel
theorem dX6_readWord_101 : decode cX6_readWord 101 = .ok (.getfield 28, 3) := by decide +kernel
theorem dX6_readWord_104 : decode cX6_readWord 104 = .ok (.invokevirtual 86, 3) := by decide +kernel
theorem dX6_readWord_107 : decode cX6_readWord 107 = .ok (.invokestatic 90, 3) := by decide +kernel
theorem dX6_readWord_110 : decode cX6_readWord 110 = .ok (.ifCond .eq 11, 3) := by decide +kernel
theorem dX6_readWord_113 : decode cX6_readWord 113 = .ok (.aload_n 0, 1) := by decide +kernel
theorem dX6_readWord_114 : decode cX6_readWord 114 = .ok (.aload_n 0, 1) := by decide +kernel
theorem dX6_readWord_115 : decode cX6_readWord 115 = .ok (.getfield 28, 3) := by decide +kernel
theorem dX6_readWord_118 : decode cX6_readWord 118 = .ok (.invokevirtual 83, 3) := by decide +kernel
theorem dX6_readWord_121 : decode cX6_readWord 121 = .ok (.iload_n 3, 1) := by decide +kernel
theorem dX6_readWord_122 : decode cX6_readWord 122 = .ok (.ireturn, 1) := by decide +kernel
theorem dX6_readFleet_0 : decode cX6_readFleet 0 = .ok (.aload_n 0, 1) := by decide +kernel
theorem dX6_readFleet_1 : decode cX6_readFleet 1 = .ok (.iconst 0, 1) := by decide +kernel
theorem dX6_readFleet_2 : decode cX6_readFleet 2 = .ok (.iconst 2, 1) := by decide +kernel
theorem dX6_readFleet_3 : decode cX6_readFleet 3 = .ok (.invokevirtual 45, 3) := by decide +kernel
theorem dX6_readFleet_6 : decode cX6_readFleet 6 = .ok (.istore_n 2, 1) := by decide +kernel
theorem dX6_readFleet_7 : decode cX6_readFleet 7 = .ok (.iconst 0, 1) := by decide +kernel
theorem dX6_readFleet_8 : decode cX6_readFleet 8 = .ok (.istore_n 3, 1) := by decide +kernel
theorem dX6_readFleet_9 : decode cX6_readFleet 9 = .ok (.iconst 0, 1) := by decide +kernel
theorem dX6_readFleet_10 : decode cX6_readFleet 10 = .ok (.istore 4, 2) := by decide +kernel
theorem dX6_readFleet_12 : decode cX6_readFleet 12 = .ok (.iload 4, 2) := by decide +kernel
theorem dX6_readFleet_14 : decode cX6_readFleet 14 = .ok (.aload_n 0, 1) := by decide +kernel
theorem dX6_readFleet_15 : decode cX6_readFleet 15 = .ok (.getfield 15, 3) := by decide +kernel
theorem dX6_readFleet_18 : decode cX6_readFleet 18 = .ok (.if_icmp .ge 35, 3) := by decide +kernel
theorem dX6_readFleet_21 : decode cX6_readFleet 21 = .ok (.aload_n 0, 1) := by decide +kernel
theorem dX6_readFleet_22 : decode cX6_readFleet 22 = .ok (.getfield 31, 3) := by decide +kernel
theorem dX6_readFleet_25 : decode cX6_readFleet 25 = .ok (.iconst (-1), 1) := by decide +kernel
theorem dX6_readFleet_26 : decode cX6_readFleet 26 = .ok (.if_icmp .ne 27, 3) := by decide +kernel
theorem dX6_readFleet_29 : decode cX6_readFleet 29 = .ok (.aload_n 0, 1) := by decide +kernel
theorem dX6_readFleet_30 : decode cX6_readFleet 30 = .ok (.invokevirtual 94, 3) := by decide +kernel
theorem dX6_readFleet_33 : decode cX6_readFleet 33 = .ok (.ifCond .ne 20, 3) := by decide +kernel
theorem dX6_readFleet_36 : decode cX6_readFleet 36 = .ok (.iload_n 3, 1) := by decide +kernel
theorem dX6_readFleet_37 : decode cX6_readFleet 37 = .ok (.iconst 1, 1) := by decide +kernel
theorem dX6_readFleet_38 : decode cX6_readFleet 38 = .ok (.aload_n 0, 1) := by decide +kernel
theorem dX6_readFleet_39 : decode cX6_readFleet 39 = .ok (.iconst 0, 1) := by decide +kernel
theorem dX6_readFleet_40 : decode cX6_readFleet 40 = .ok (.iconst 4, 1) := by decide +kernel
theorem dX6_readFleet_41 : decode cX6_readFleet 41 = .ok (.invokevirtual 45, 3) := by decide +kernel
theorem dX6_readFleet_44 : decode cX6_readFleet 44 = .ok (.ishl, 1) := by decide +kernel
theorem dX6_readFleet_45 : decode cX6_readFleet 45 = .ok (.ior, 1) := by decide +kernel
theorem dX6_readFleet_46 : decode cX6_readFleet 46 = .ok (.istore_n 3, 1) := by decide +kernel
theorem dX6_readFleet_47 : decode cX6_readFleet 47 = .ok (.iinc 4 1, 3) := by decide +kernel
theorem dX6_readFleet_50 : decode cX6_readFleet 50 = .ok (.goto (-38), 3) := by decide +kernel
theorem dX6_readFleet_53 : decode cX6_readFleet 53 = .ok (.aload_n 1, 1) := by decide +kernel
theorem dX6_readFleet_54 : decode cX6_readFleet 54 = .ok (.iload_n 2, 1) := by decide +kernel
theorem dX6_readFleet_55 : decode cX6_readFleet 55 = .ok (.iload_n 3, 1) := by decide +kernel
theorem dX6_readFleet_56 : decode cX6_readFleet 56 = .ok (.invokevirtual 98, 3) := by decide +kernel
theorem dX6_readFleet_59 : decode cX6_readFleet 59 = .ok (.pop, 1) := by decide +kernel
theorem dX6_readFleet_60 : decode cX6_readFleet 60 = .ok (.return_, 1) := by decide +kernel
theorem dX6_readClaim_0 : decode cX6_readClaim 0 = .ok (.aload_n 0, 1) := by decide +kernel
theorem dX6_readClaim_1 : decode cX6_readClaim 1 = .ok (.iconst 0, 1) := by decide +kernel
theorem dX6_readClaim_2 : decode cX6_readClaim 2 = .ok (.aload_n 1, 1) := by decide +kernel
theorem dX6_readClaim_3 : decode cX6_readClaim 3 = .ok (.getfield 75, 3) := by decide +kernel
theorem dX6_readClaim_6 : decode cX6_readClaim 6 = .ok (.iconst 1, 1) := by decide +kernel
theorem dX6_readClaim_7 : decode cX6_readClaim 7 = .ok (.isub, 1) := by decide +kernel
theorem dX6_readClaim_8 : decode cX6_readClaim 8 = .ok (.invokevirtual 45, 3) := by decide +kernel
theorem dX6_readClaim_11 : decode cX6_readClaim 11 = .ok (.istore_n 2, 1) := by decide +kernel
theorem dX6_readClaim_12 : decode cX6_readClaim 12 = .ok (.aload_n 0, 1) := by decide +kernel
theorem dX6_readClaim_13 : decode cX6_readClaim 13 = .ok (.iconst 0, 1) := by decide +kernel
theorem dX6_readClaim_14 : decode cX6_readClaim 14 = .ok (.iconst 4, 1) := by decide +kernel
theorem dX6_readClaim_15 : decode cX6_readClaim 15 = .ok (.invokevirtual 45, 3) := by decide +kernel
theorem dX6_readClaim_18 : decode cX6_readClaim 18 = .ok (.istore_n 3, 1) := by decide +kernel
theorem dX6_readClaim_19 : decode cX6_readClaim 19 = .ok (.aload_n 1, 1) := by decide +kernel
theorem dX6_readClaim_20 : decode cX6_readClaim 20 = .ok (.iload_n 2, 1) := by decide +kernel
theorem dX6_readClaim_21 : decode cX6_readClaim 21 = .ok (.iload_n 3, 1) := by decide +kernel
theorem dX6_readClaim_22 : decode cX6_readClaim 22 = .ok (.invokevirtual 101, 3) := by decide +kernel
theorem dX6_readClaim_25 : decode cX6_readClaim 25 = .ok (.ifCond .ne 11, 3) := by decide +kernel
theorem dX6_readClaim_28 : decode cX6_readClaim 28 = .ok (.aload_n 0, 1) := by decide +kernel
theorem dX6_readClaim_29 : decode cX6_readClaim 29 = .ok (.aload_n 0, 1) := by decide +kernel
theorem dX6_readClaim_30 : decode cX6_readClaim 30 = .ok (.getfield 105, 3) := by decide +kernel
theorem dX6_readClaim_33 : decode cX6_readClaim 33 = .ok (.invokevirtual 83, 3) := by decide +kernel
theorem dX6_readClaim_36 : decode cX6_readClaim 36 = .ok (.aload_n 1, 1) := by decide +kernel
theorem dX6_readClaim_37 : decode cX6_readClaim 37 = .ok (.iload_n 2, 1) := by decide +kernel
theorem dX6_readClaim_38 : decode cX6_readClaim 38 = .ok (.iload_n 3, 1) := by decide +kernel
theorem dX6_readClaim_39 : decode cX6_readClaim 39 = .ok (.aload_n 0, 1) := by decide +kernel
theorem dX6_readClaim_40 : decode cX6_readClaim 40 = .ok (.iconst 1, 1) := by decide +kernel
theorem dX6_readClaim_41 : decode cX6_readClaim 41 = .ok (.bipush 99, 2) := by decide +kernel
theorem dX6_readClaim_43 : decode cX6_readClaim 43 = .ok (.invokevirtual 45, 3) := by decide +kernel
theorem dX6_readClaim_46 : decode cX6_readClaim 46 = .ok (.invokevirtual 108, 3) := by decide +kernel
theorem dX6_readClaim_49 : decode cX6_readClaim 49 = .ok (.pop, 1) := by decide +kernel
theorem dX6_readClaim_50 : decode cX6_readClaim 50 = .ok (.return_, 1) := by decide +kernel
theorem dX6_readNumber_0 : decode cX6_readNumber 0 = .ok (.aload_n 0, 1) := by decide +kernel
theorem dX6_readNumber_1 : decode cX6_readNumber 1 = .ok (.invokevirtual 34, 3) := by decide +kernel
theorem dX6_readNumber_4 : decode cX6_readNumber 4 = .ok (.aload_n 0, 1) := by decide +kernel
theorem dX6_readNumber_5 : decode cX6_readNumber 5 = .ok (.aload_n 0, 1) := by decide +kernel
theorem dX6_readNumber_6 : decode cX6_readNumber 6 = .ok (.getfield 28, 3) := by decide +kernel
theorem dX6_readNumber_9 : decode cX6_readNumber 9 = .ok (.putfield 105, 3) := by decide +kernel
theorem dX6_readNumber_12 : decode cX6_readNumber 12 = .ok (.iconst 0, 1) := by decide +kernel
theorem dX6_readNumber_13 : decode cX6_readNumber 13 = .ok (.istore_n 3, 1) := by decide +kernel
theorem dX6_readNumber_14 : decode cX6_readNumber 14 = .ok (.aload_n 0, 1) := by decide +kernel
theorem dX6_readNumber_15 : decode cX6_readNumber 15 = .ok (.getfield 28, 3) := by decide +kernel
theorem dX6_readNumber_18 : decode cX6_readNumber 18 = .ok (.istore 4, 2) := by decide +kernel
theorem dX6_readNumber_20 : decode cX6_readNumber 20 = .ok (.iload 4, 2) := by decide +kernel
theorem dX6_readNumber_22 : decode cX6_readNumber 22 = .ok (.aload_n 0, 1) := by decide +kernel
theorem dX6_readNumber_23 : decode cX6_readNumber 23 = .ok (.getfield 15, 3) := by decide +kernel
theorem dX6_readNumber_26 : decode cX6_readNumber 26 = .ok (.if_icmp .ge 50, 3) := by decide +kernel
theorem dX6_readNumber_29 : decode cX6_readNumber 29 = .ok (.aload_n 0, 1) := by decide +kernel
theorem dX6_readNumber_30 : decode cX6_readNumber 30 = .ok (.iload 4, 2) := by decide +kernel
theorem dX6_readNumber_32 : decode cX6_readNumber 32 = .ok (.invokevirtual 86, 3) := by decide +kernel
theorem dX6_readNumber_35 : decode cX6_readNumber 35 = .ok (.invokestatic 90, 3) := by decide +kernel
theorem dX6_readNumber_38 : decode cX6_readNumber 38 = .ok (.ifCond .eq 38, 3) := by decide +kernel
theorem dX6_readNumber_41 : decode cX6_readNumber 41 = .ok (.iload_n 3, 1) := by decide +kernel
theorem dX6_readNumber_42 : decode cX6_readNumber 42 = .ok (.bipush 10, 2) := by decide +kernel
theorem dX6_readNumber_44 : decode cX6_readNumber 44 = .ok (.imul, 1) := by decide +kernel
theorem dX6_readNumber_45 : decode cX6_readNumber 45 = .ok (.aload_n 0, 1) := by decide +kernel
theorem dX6_readNumber_46 : decode cX6_readNumber 46 = .ok (.iload 4, 2) := by decide +kernel
theorem dX6_readNumber_48 : decode cX6_readNumber 48 = .ok (.invokevirtual 86, 3) := by decide +kernel
theorem dX6_readNumber_51 : decode cX6_readNumber 51 = .ok (.iadd, 1) := by decide +kernel
theorem dX6_readNumber_52 : decode cX6_readNumber 52 = .ok (.bipush 48, 2) := by decide +kernel
theorem dX6_readNumber_54 : decode cX6_readNumber 54 = .ok (.isub, 1) := by decide +kernel
theorem dX6_readNumber_55 : decode cX6_readNumber 55 = .ok (.sipush 1000, 3) := by decide +kernel
theorem dX6_readNumber_58 : decode cX6_readNumber 58 = .ok (.invokestatic 112, 3) := by decide +kernel
theorem dX6_readNumber_61 : decode cX6_readNumber 61 = .ok (.istore_n 3, 1) := by decide +kernel
theorem dX6_readNumber_62 : decode cX6_readNumber 62 = .ok (.aload_n 0, 1) := by decide +kernel
theorem dX6_readNumber_63 : decode cX6_readNumber 63 = .ok (.iload 4, 2) := by decide +kernel
theorem dX6_readNumber_65 : decode cX6_readNumber 65 = .ok (.iconst 1, 1) := by decide +kernel
theorem dX6_readNumber_66 : decode cX6_readNumber 66 = .ok (.iadd, 1) := by decide +kernel
theorem dX6_readNumber_67 : decode cX6_readNumber 67 = .ok (.putfield 28, 3) := by decide +kernel
theorem dX6_readNumber_70 : decode cX6_readNumber 70 = .ok (.iinc 4 1, 3) := by decide +kernel
theorem dX6_readNumber_73 : decode cX6_readNumber 73 = .ok (.goto (-53), 3) := by decide +kernel
theorem dX6_readNumber_76 : decode cX6_readNumber 76 = .ok (.aload_n 0, 1) := by decide +kernel
theorem dX6_readNumber_77 : decode cX6_readNumber 77 = .ok (.getfield 28, 3) := by decide +kernel
theorem dX6_readNumber_80 : decode cX6_readNumber 80 = .ok (.aload_n 0, 1) := by decide +kernel
theorem dX6_readNumber_81 : decode cX6_readNumber 81 = .ok (.getfield 105, 3) := by decide +kernel
theorem dX6_readNumber_84 : decode cX6_readNumber 84 = .ok (.isub, 1) := by decide +kernel
theorem dX6_readNumber_85 : decode cX6_readNumber 85 = .ok (.istore 4, 2) := by decide +kernel
theorem dX6_readNumber_87 : decode cX6_readNumber 87 = .ok (.iload 4, 2) := by decide +kernel
theorem dX6_readNumber_89 : decode cX6_readNumber 89 = .ok (.iconst 1, 1) := by decide +kernel
theorem dX6_readNumber_90 : decode cX6_readNumber 90 = .ok (.if_icmp .lt 19, 3) := by decide +kernel
theorem dX6_readNumber_93 : decode cX6_readNumber 93 = .ok (.iload 4, 2) := by decide +kernel
theorem dX6_readNumber_95 : decode cX6_readNumber 95 = .ok (.iconst 2, 1) := by decide +kernel
theorem dX6_readNumber_96 : decode cX6_readNumber 96 = .ok (.if_icmp .gt 13, 3) := by decide +kernel
theorem dX6_readNumber_99 : decode cX6_readNumber 99 = .ok (.iload_n 3, 1) := by decide +kernel
theorem dX6_readNumber_100 : decode cX6_readNumber 100 = .ok (.iload_n 1, 1) := by decide +kernel
theorem dX6_readNumber_101 : decode cX6_readNumber 101 = .ok (.if_icmp .lt 8, 3) := by decide +kernel
theorem dX6_readNumber_104 : decode cX6_readNumber 104 = .ok (.iload_n 3, 1) := by decide +kernel
theorem dX6_readNumber_105 : decode cX6_readNumber 105 = .ok (.iload_n 2, 1) := by decide +kernel
theorem dX6_readNumber_106 : decode cX6_readNumber 106 = .ok (.if_icmp .le 13, 3) := by decide +kernel
theorem dX6_readNumber_109 : decode cX6_readNumber 109 = .ok (.aload_n 0, 1) := by decide +kernel
theorem dX6_readNumber_110 : decode cX6_readNumber 110 = .ok (.aload_n 0, 1) := by decide +kernel
theorem dX6_readNumber_111 : decode cX6_readNumber 111 = .ok (.getfield 105, 3) := by decide +kernel
theorem dX6_readNumber_114 : decode cX6_readNumber 114 = .ok (.invokevirtual 83, 3) := by decide +kernel
theorem dX6_readNumber_117 : decode cX6_readNumber 117 = .ok (.iload_n 1, 1) := by decide +kernel
theorem dX6_readNumber_118 : decode cX6_readNumber 118 = .ok (.ireturn, 1) := by decide +kernel
theorem dX6_readNumber_119 : decode cX6_readNumber 119 = .ok (.iload_n 3, 1) := by decide +kernel
theorem dX6_readNumber_120 : decode cX6_readNumber 120 = .ok (.ireturn, 1) := by decide +kernel
theorem dX6_readEnd_0 : decode cX6_readEnd 0 = .ok (.aload_n 0, 1) := by decide +kernel
theorem dX6_readEnd_1 : decode cX6_readEnd 1 = .ok (.invokevirtual 94, 3) := by decide +kernel
theorem dX6_readEnd_4 : decode cX6_readEnd 4 = .ok (.ifCond .eq 16, 3) := by decide +kernel
theorem dX6_readEnd_7 : decode cX6_readEnd 7 = .ok (.aload_n 0, 1) := by decide +kernel
theorem dX6_readEnd_8 : decode cX6_readEnd 8 = .ok (.dup, 1) := by decide +kernel
theorem dX6_readEnd_9 : decode cX6_readEnd 9 = .ok (.getfield 28, 3) := by decide +kernel
theorem dX6_readEnd_12 : decode cX6_readEnd 12 = .ok (.iconst 1, 1) := by decide +kernel
theorem dX6_readEnd_13 : decode cX6_readEnd 13 = .ok (.iadd, 1) := by decide +kernel
theorem dX6_readEnd_14 : decode cX6_readEnd 14 = .ok (.putfield 28, 3) := by decide +kernel
theorem dX6_readEnd_17 : decode cX6_readEnd 17 = .ok (.goto 11, 3) := by decide +kernel
theorem dX6_readEnd_20 : decode cX6_readEnd 20 = .ok (.aload_n 0, 1) := by decide +kernel
theorem dX6_readEnd_21 : decode cX6_readEnd 21 = .ok (.aload_n 0, 1) := by decide +kernel
theorem dX6_readEnd_22 : decode cX6_readEnd 22 = .ok (.getfield 28, 3) := by decide +kernel
theorem dX6_readEnd_25 : decode cX6_readEnd 25 = .ok (.invokevirtual 83, 3) := by decide +kernel
theorem dX6_readEnd_28 : decode cX6_readEnd 28 = .ok (.return_, 1) := by decide +kernel
theorem dX6_isEndNext_0 : decode cX6_isEndNext 0 = .ok (.aload_n 0, 1) := by decide +kernel
theorem dX6_isEndNext_1 : decode cX6_isEndNext 1 = .ok (.invokevirtual 34, 3) := by decide +kernel
theorem dX6_isEndNext_4 : decode cX6_isEndNext 4 = .ok (.aload_n 0, 1) := by decide +kernel
theorem dX6_isEndNext_5 : decode cX6_isEndNext 5 = .ok (.aload_n 0, 1) := by decide +kernel
theorem dX6_isEndNext_6 : decode cX6_isEndNext 6 = .ok (.getfield 28, 3) := by decide +kernel
theorem dX6_isEndNext_9 : decode cX6_isEndNext 9 = .ok (.invokevirtual 86, 3) := by decide +kernel
theorem dX6_isEndNext_12 : decode cX6_isEndNext 12 = .ok (.bipush 59, 2) := by decide +kernel
theorem dX6_isEndNext_14 : decode cX6_isEndNext 14 = .ok (.if_icmp .ne 7, 3) := by decide +kernel
theorem dX6_isEndNext_17 : decode cX6_isEndNext 17 = .ok (.iconst 1, 1) := by decide +kernel
theorem dX6_isEndNext_18 : decode cX6_isEndNext 18 = .ok (.goto 4, 3) := by decide +kernel
theorem dX6_isEndNext_21 : decode cX6_isEndNext 21 = .ok (.iconst 0, 1) := by decide +kernel
theorem dX6_isEndNext_22 : decode cX6_isEndNext 22 = .ok (.ireturn, 1) := by decide +kernel
theorem dX6_failAt_0 : decode cX6_failAt 0 = .ok (.aload_n 0, 1) := by decide +kernel
theorem dX6_failAt_1 : decode cX6_failAt 1 = .ok (.getfield 31, 3) := by decide +kernel
theorem dX6_failAt_4 : decode cX6_failAt 4 = .ok (.iconst (-1), 1) := by decide +kernel
theorem dX6_failAt_5 : decode cX6_failAt 5 = .ok (.if_icmp .ne 8, 3) := by decide +kernel
theorem dX6_failAt_8 : decode cX6_failAt 8 = .ok (.aload_n 0, 1) := by decide +kernel
theorem dX6_failAt_9 : decode cX6_failAt 9 = .ok (.iload_n 1, 1) := by decide +kernel
theorem dX6_failAt_10 : decode cX6_failAt 10 = .ok (.putfield 31, 3) := by decide +kernel
theorem dX6_failAt_13 : decode cX6_failAt 13 = .ok (.return_, 1) := by decide +kernel
theorem dX6_isWord_0 : decode cX6_isWord 0 = .ok (.aload_n 0, 1) := by decide +kernel
theorem dX6_isWord_1 : decode cX6_isWord 1 = .ok (.getfield 28, 3) := by decide +kernel
theorem dX6_isWord_4 : decode cX6_isWord 4 = .ok (.iload_n 1, 1) := by decide +kernel
theorem dX6_isWord_5 : decode cX6_isWord 5 = .ok (.isub, 1) := by decide +kernel
theorem dX6_isWord_6 : decode cX6_isWord 6 = .ok (.aload_n 2, 1) := by decide +kernel
theorem dX6_isWord_7 : decode cX6_isWord 7 = .ok (.invokevirtual 117, 3) := by decide +kernel
theorem dX6_isWord_10 : decode cX6_isWord 10 = .ok (.if_icmp .eq 5, 3) := by decide +kernel
theorem dX6_isWord_13 : decode cX6_isWord 13 = .ok (.iconst 0, 1) := by decide +kernel
theorem dX6_isWord_14 : decode cX6_isWord 14 = .ok (.ireturn, 1) := by decide +kernel
theorem dX6_isWord_15 : decode cX6_isWord 15 = .ok (.iconst 0, 1) := by decide +kernel
theorem dX6_isWord_16 : decode cX6_isWord 16 = .ok (.istore_n 3, 1) := by decide +kernel
theorem dX6_isWord_17 : decode cX6_isWord 17 = .ok (.iload_n 3, 1) := by decide +kernel
theorem dX6_isWord_18 : decode cX6_isWord 18 = .ok (.aload_n 2, 1) := by decide +kernel
theorem dX6_isWord_19 : decode cX6_isWord 19 = .ok (.invokevirtual 117, 3) := by decide +kernel
theorem dX6_isWord_22 : decode cX6_isWord 22 = .ok (.if_icmp .ge 26, 3) := by decide +kernel
theorem dX6_isWord_25 : decode cX6_isWord 25 = .ok (.aload_n 0, 1) := by decide +kernel
theorem dX6_isWord_26 : decode cX6_isWord 26 = .ok (.iload_n 1, 1) := by decide +kernel
theorem dX6_isWord_27 : decode cX6_isWord 27 = .ok (.iload_n 3, 1) := by decide +kernel
theorem dX6_isWord_28 : decode cX6_isWord 28 = .ok (.iadd, 1) := by decide +kernel
theorem dX6_isWord_29 : decode cX6_isWord 29 = .ok (.invokevirtual 86, 3) := by decide +kernel
theorem dX6_isWord_32 : decode cX6_isWord 32 = .ok (.aload_n 2, 1) := by decide +kernel
theorem dX6_isWord_33 : decode cX6_isWord 33 = .ok (.iload_n 3, 1) := by decide +kernel
theorem dX6_isWord_34 : decode cX6_isWord 34 = .ok (.invokevirtual 123, 3) := by decide +kernel
theorem dX6_isWord_37 : decode cX6_isWord 37 = .ok (.if_icmp .eq 5, 3) := by decide +kernel
theorem dX6_isWord_40 : decode cX6_isWord 40 = .ok (.iconst 0, 1) := by decide +kernel
theorem dX6_isWord_41 : decode cX6_isWord 41 = .ok (.ireturn, 1) := by decide +kernel
theorem dX6_isWord_42 : decode cX6_isWord 42 = .ok (.iinc 3 1, 3) := by decide +kernel
theorem dX6_isWord_45 : decode cX6_isWord 45 = .ok (.goto (-28), 3) := by decide +kernel
theorem dX6_isWord_48 : decode cX6_isWord 48 = .ok (.iconst 1, 1) := by decide +kernel
theorem dX6_isWord_49 : decode cX6_isWord 49 = .ok (.ireturn, 1) := by decide +kernel
theorem dX6_skipLetters_0 : decode cX6_skipLetters 0 = .ok (.aload_n 0, 1) := by decide +kernel
theorem dX6_skipLetters_1 : decode cX6_skipLetters 1 = .ok (.getfield 28, 3) := by decide +kernel
theorem dX6_skipLetters_4 : decode cX6_skipLetters 4 = .ok (.istore_n 1, 1) := by decide +kernel
theorem dX6_skipLetters_5 : decode cX6_skipLetters 5 = .ok (.iload_n 1, 1) := by decide +kernel
theorem dX6_skipLetters_6 : decode cX6_skipLetters 6 = .ok (.aload_n 0, 1) := by decide +kernel
theorem dX6_skipLetters_7 : decode cX6_skipLetters 7 = .ok (.getfield 15, 3) := by decide +kernel
theorem dX6_skipLetters_10 : decode cX6_skipLetters 10 = .ok (.if_icmp .ge 36, 3) := by decide +kernel
theorem dX6_skipLetters_13 : decode cX6_skipLetters 13 = .ok (.aload_n 0, 1) := by decide +kernel
theorem dX6_skipLetters_14 : decode cX6_skipLetters 14 = .ok (.iload_n 1, 1) := by decide +kernel
theorem dX6_skipLetters_15 : decode cX6_skipLetters 15 = .ok (.invokevirtual 86, 3) := by decide +kernel
theorem dX6_skipLetters_18 : decode cX6_skipLetters 18 = .ok (.bipush 97, 2) := by decide +kernel
theorem dX6_skipLetters_20 : decode cX6_skipLetters 20 = .ok (.if_icmp .lt 26, 3) := by decide +kernel
theorem dX6_skipLetters_23 : decode cX6_skipLetters 23 = .ok (.aload_n 0, 1) := by decide +kernel
theorem dX6_skipLetters_24 : decode cX6_skipLetters 24 = .ok (.iload_n 1, 1) := by decide +kernel
theorem dX6_skipLetters_25 : decode cX6_skipLetters 25 = .ok (.invokevirtual 86, 3) := by decide +kernel
theorem dX6_skipLetters_28 : decode cX6_skipLetters 28 = .ok (.bipush 122, 2) := by decide +kernel
theorem dX6_skipLetters_30 : decode cX6_skipLetters 30 = .ok (.if_icmp .gt 16, 3) := by decide +kernel
theorem dX6_skipLetters_33 : decode cX6_skipLetters 33 = .ok (.aload_n 0, 1) := by decide +kernel
theorem dX6_skipLetters_34 : decode cX6_skipLetters 34 = .ok (.iload_n 1, 1) := by decide +kernel
theorem dX6_skipLetters_35 : decode cX6_skipLetters 35 = .ok (.iconst 1, 1) := by decide +kernel
theorem dX6_skipLetters_36 : decode cX6_skipLetters 36 = .ok (.iadd, 1) := by decide +kernel
theorem dX6_skipLetters_37 : decode cX6_skipLetters 37 = .ok (.putfield 28, 3) := by decide +kernel
theorem dX6_skipLetters_40 : decode cX6_skipLetters 40 = .ok (.iinc 1 1, 3) := by decide +kernel
theorem dX6_skipLetters_43 : decode cX6_skipLetters 43 = .ok (.goto (-38), 3) := by decide +kernel
theorem dX6_skipLetters_46 : decode cX6_skipLetters 46 = .ok (.return_, 1) := by decide +kernel
theorem dX6_skipGaps_0 : decode cX6_skipGaps 0 = .ok (.aload_n 0, 1) := by decide +kernel
theorem dX6_skipGaps_1 : decode cX6_skipGaps 1 = .ok (.getfield 28, 3) := by decide +kernel
theorem dX6_skipGaps_4 : decode cX6_skipGaps 4 = .ok (.istore_n 1, 1) := by decide +kernel
theorem dX6_skipGaps_5 : decode cX6_skipGaps 5 = .ok (.iload_n 1, 1) := by decide +kernel
theorem dX6_skipGaps_6 : decode cX6_skipGaps 6 = .ok (.aload_n 0, 1) := by decide +kernel
theorem dX6_skipGaps_7 : decode cX6_skipGaps 7 = .ok (.getfield 15, 3) := by decide +kernel
theorem dX6_skipGaps_10 : decode cX6_skipGaps 10 = .ok (.if_icmp .ge 36, 3) := by decide +kernel
theorem dX6_skipGaps_13 : decode cX6_skipGaps 13 = .ok (.aload_n 0, 1) := by decide +kernel
theorem dX6_skipGaps_14 : decode cX6_skipGaps 14 = .ok (.iload_n 1, 1) := by decide +kernel
theorem dX6_skipGaps_15 : decode cX6_skipGaps 15 = .ok (.invokevirtual 86, 3) := by decide +kernel
theorem dX6_skipGaps_18 : decode cX6_skipGaps 18 = .ok (.bipush 32, 2) := by decide +kernel
theorem dX6_skipGaps_20 : decode cX6_skipGaps 20 = .ok (.if_icmp .eq 13, 3) := by decide +kernel
theorem dX6_skipGaps_23 : decode cX6_skipGaps 23 = .ok (.aload_n 0, 1) := by decide +kernel
theorem dX6_skipGaps_24 : decode cX6_skipGaps 24 = .ok (.iload_n 1, 1) := by decide +kernel
theorem dX6_skipGaps_25 : decode cX6_skipGaps 25 = .ok (.invokevirtual 86, 3) := by decide +kernel
theorem dX6_skipGaps_28 : decode cX6_skipGaps 28 = .ok (.bipush 10, 2) := by decide +kernel
theorem dX6_skipGaps_30 : decode cX6_skipGaps 30 = .ok (.if_icmp .ne 16, 3) := by decide +kernel
theorem dX6_skipGaps_33 : decode cX6_skipGaps 33 = .ok (.aload_n 0, 1) := by decide +kernel
theorem dX6_skipGaps_34 : decode cX6_skipGaps 34 = .ok (.iload_n 1, 1) := by decide +kernel
theorem dX6_skipGaps_35 : decode cX6_skipGaps 35 = .ok (.iconst 1, 1) := by decide +kernel
theorem dX6_skipGaps_36 : decode cX6_skipGaps 36 = .ok (.iadd, 1) := by decide +kernel
theorem dX6_skipGaps_37 : decode cX6_skipGaps 37 = .ok (.putfield 28, 3) := by decide +kernel
theorem dX6_skipGaps_40 : decode cX6_skipGaps 40 = .ok (.iinc 1 1, 3) := by decide +kernel
theorem dX6_skipGaps_43 : decode cX6_skipGaps 43 = .ok (.goto (-38), 3) := by decide +kernel
theorem dX6_skipGaps_46 : decode cX6_skipGaps 46 = .ok (.return_, 1) := by decide +kernel
theorem dX6_isDigit_0 : decode cX6_isDigit 0 = .ok (.iload_n 0, 1) := by decide +kernel
theorem dX6_isDigit_1 : decode cX6_isDigit 1 = .ok (.bipush 48, 2) := by decide +kernel
theorem dX6_isDigit_3 : decode cX6_isDigit 3 = .ok (.if_icmp .lt 13, 3) := by decide +kernel
theorem dX6_isDigit_6 : decode cX6_isDigit 6 = .ok (.iload_n 0, 1) := by decide +kernel
theorem dX6_isDigit_7 : decode cX6_isDigit 7 = .ok (.bipush 57, 2) := by decide +kernel
theorem dX6_isDigit_9 : decode cX6_isDigit 9 = .ok (.if_icmp .gt 7, 3) := by decide +kernel
theorem dX6_isDigit_12 : decode cX6_isDigit 12 = .ok (.iconst 1, 1) := by decide +kernel
theorem dX6_isDigit_13 : decode cX6_isDigit 13 = .ok (.goto 4, 3) := by decide +kernel
theorem dX6_isDigit_16 : decode cX6_isDigit 16 = .ok (.iconst 0, 1) := by decide +kernel
theorem dX6_isDigit_17 : decode cX6_isDigit 17 = .ok (.ireturn, 1) := by decide +kernel
theorem dJ6_bitCount_0f7a4_0 : decode cJ6_bitCount_0f7a4 0 = .ok (.iload_n 0, 1) := by decide +kernel
theorem dJ6_bitCount_0f7a4_1 : decode cJ6_bitCount_0f7a4 1 = .ok (.iload_n 0, 1) := by decide +kernel
theorem dJ6_bitCount_0f7a4_2 : decode cJ6_bitCount_0f7a4 2 = .ok (.iconst 1, 1) := by decide +kernel
theorem dJ6_bitCount_0f7a4_3 : decode cJ6_bitCount_0f7a4 3 = .ok (.iushr, 1) := by decide +kernel
theorem dJ6_bitCount_0f7a4_4 : decode cJ6_bitCount_0f7a4 4 = .ok (.ldc_w 265, 3) := by decide +kernel
theorem dJ6_bitCount_0f7a4_7 : decode cJ6_bitCount_0f7a4 7 = .ok (.iand, 1) := by decide +kernel
theorem dJ6_bitCount_0f7a4_8 : decode cJ6_bitCount_0f7a4 8 = .ok (.isub, 1) := by decide +kernel
theorem dJ6_bitCount_0f7a4_9 : decode cJ6_bitCount_0f7a4 9 = .ok (.istore_n 0, 1) := by decide +kernel
theorem dJ6_bitCount_0f7a4_10 : decode cJ6_bitCount_0f7a4 10 = .ok (.iload_n 0, 1) := by decide +kernel
theorem dJ6_bitCount_0f7a4_11 : decode cJ6_bitCount_0f7a4 11 = .ok (.ldc_w 266, 3) := by decide +kernel
theorem dJ6_bitCount_0f7a4_14 : decode cJ6_bitCount_0f7a4 14 = .ok (.iand, 1) := by decide +kernel
theorem dJ6_bitCount_0f7a4_15 : decode cJ6_bitCount_0f7a4 15 = .ok (.iload_n 0, 1) := by decide +kernel
theorem dJ6_bitCount_0f7a4_16 : decode cJ6_bitCount_0f7a4 16 = .ok (.iconst 2, 1) := by decide +kernel
theorem dJ6_bitCount_0f7a4_17 : decode cJ6_bitCount_0f7a4 17 = .ok (.iushr, 1) := by decide +kernel
theorem dJ6_bitCount_0f7a4_18 : decode cJ6_bitCount_0f7a4 18 = .ok (.ldc_w 266, 3) := by decide +kernel
theorem dJ6_bitCount_0f7a4_21 : decode cJ6_bitCount_0f7a4 21 = .ok (.iand, 1) := by decide +kernel
theorem dJ6_bitCount_0f7a4_22 : decode cJ6_bitCount_0f7a4 22 = .ok (.iadd, 1) := by decide +kernel
theorem dJ6_bitCount_0f7a4_23 : decode cJ6_bitCount_0f7a4 23 = .ok (.istore_n 0, 1) := by decide +kernel
theorem dJ6_bitCount_0f7a4_24 : decode cJ6_bitCount_0f7a4 24 = .ok (.iload_n 0, 1) := by decide +kernel
theorem dJ6_bitCount_0f7a4_25 : decode cJ6_bitCount_0f7a4 25 = .ok (.iload_n 0, 1) := by decide +kernel
theorem dJ6_bitCount_0f7a4_26 : decode cJ6_bitCount_0f7a4 26 = .ok (.iconst 4, 1) := by decide +kernel
theorem dJ6_bitCount_0f7a4_27 : decode cJ6_bitCount_0f7a4 27 = .ok (.iushr, 1) := by decide +kernel
theorem dJ6_bitCount_0f7a4_28 : decode cJ6_bitCount_0f7a4 28 = .ok (.iadd, 1) := by decide +kernel
theorem dJ6_bitCount_0f7a4_29 : decode cJ6_bitCount_0f7a4 29 = .ok (.ldc_w 267, 3) := by decide +kernel
theorem dJ6_bitCount_0f7a4_32 : decode cJ6_bitCount_0f7a4 32 = .ok (.iand, 1) := by decide +kernel
theorem dJ6_bitCount_0f7a4_33 : decode cJ6_bitCount_0f7a4 33 = .ok (.istore_n 0, 1) := by decide +kernel
theorem dJ6_bitCount_0f7a4_34 : decode cJ6_bitCount_0f7a4 34 = .ok (.iload_n 0, 1) := by decide +kernel
theorem dJ6_bitCount_0f7a4_35 : decode cJ6_bitCount_0f7a4 35 = .ok (.iload_n 0, 1) := by decide +kernel
theorem dJ6_bitCount_0f7a4_36 : decode cJ6_bitCount_0f7a4 36 = .ok (.bipush 8, 2) := by decide +kernel
theorem dJ6_bitCount_0f7a4_38 : decode cJ6_bitCount_0f7a4 38 = .ok (.iushr, 1) := by decide +kernel
theorem dJ6_bitCount_0f7a4_39 : decode cJ6_bitCount_0f7a4 39 = .ok (.iadd, 1) := by decide +kernel
theorem dJ6_bitCount_0f7a4_40 : decode cJ6_bitCount_0f7a4 40 = .ok (.istore_n 0, 1) := by decide +kernel
theorem dJ6_bitCount_0f7a4_41 : decode cJ6_bitCount_0f7a4 41 = .ok (.iload_n 0, 1) := by decide +kernel
theorem dJ6_bitCount_0f7a4_42 : decode cJ6_bitCount_0f7a4 42 = .ok (.iload_n 0, 1) := by decide +kernel
theorem dJ6_bitCount_0f7a4_43 : decode cJ6_bitCount_0f7a4 43 = .ok (.bipush 16, 2) := by decide +kernel
theorem dJ6_bitCount_0f7a4_45 : decode cJ6_bitCount_0f7a4 45 = .ok (.iushr, 1) := by decide +kernel
theorem dJ6_bitCount_0f7a4_46 : decode cJ6_bitCount_0f7a4 46 = .ok (.iadd, 1) := by decide +kernel
theorem dJ6_bitCount_0f7a4_47 : decode cJ6_bitCount_0f7a4 47 = .ok (.istore_n 0, 1) := by decide +kernel
theorem dJ6_bitCount_0f7a4_48 : decode cJ6_bitCount_0f7a4 48 = .ok (.iload_n 0, 1) := by decide +kernel
theorem dJ6_bitCount_0f7a4_49 : decode cJ6_bitCount_0f7a4 49 = .ok (.bipush 63, 2) := by decide +kernel
theorem dJ6_bitCount_0f7a4_51 : decode cJ6_bitCount_0f7a4 51 = .ok (.iand, 1) := by decide +kernel
theorem dJ6_bitCount_0f7a4_52 : decode cJ6_bitCount_0f7a4 52 = .ok (.ireturn, 1) := by decide +kernel
theorem dJ9_abs_067f4_0 : decode cJ9_abs_067f4 0 = .ok (.lload_n 0, 1) := by decide +kernel
theorem dJ9_abs_067f4_1 : decode cJ9_abs_067f4 1 = .ok (.lconst 0, 1) := by decide +kernel
theorem dJ9_abs_067f4_2 : decode cJ9_abs_067f4 2 = .ok (.lcmp, 1) := by decide +kernel
theorem dJ9_abs_067f4_3 : decode cJ9_abs_067f4 3 = .ok (.ifCond .ge 8, 3) := by decide +kernel
theorem dJ9_abs_067f4_6 : decode cJ9_abs_067f4 6 = .ok (.lload_n 0, 1) := by decide +kernel
theorem dJ9_abs_067f4_7 : decode cJ9_abs_067f4 7 = .ok (.lneg, 1) := by decide +kernel
theorem dJ9_abs_067f4_8 : decode cJ9_abs_067f4 8 = .ok (.goto 4, 3) := by decide +kernel
theorem dJ9_abs_067f4_11 : decode cJ9_abs_067f4 11 = .ok (.lload_n 0, 1) := by decide +kernel
theorem dJ9_abs_067f4_12 : decode cJ9_abs_067f4 12 = .ok (.lreturn, 1) := by decide +kernel
theorem dJ9_max_7cf53_0 : decode cJ9_max_7cf53 0 = .ok (.iload_n 0, 1) := by decide +kernel
theorem dJ9_max_7cf53_1 : decode cJ9_max_7cf53 1 = .ok (.iload_n 1, 1) := by decide +kernel
theorem dJ9_max_7cf53_2 : decode cJ9_max_7cf53 2 = .ok (.if_icmp .lt 7, 3) := by decide +kernel
theorem dJ9_max_7cf53_5 : decode cJ9_max_7cf53 5 = .ok (.iload_n 0, 1) := by decide +kernel
theorem dJ9_max_7cf53_6 : decode cJ9_max_7cf53 6 = .ok (.goto 4, 3) := by decide +kernel
theorem dJ9_max_7cf53_9 : decode cJ9_max_7cf53 9 = .ok (.iload_n 1, 1) := by decide +kernel
theorem dJ9_max_7cf53_10 : decode cJ9_max_7cf53 10 = .ok (.ireturn, 1) := by decide +kernel
theorem dJ9_max_f86c9_0 : decode cJ9_max_f86c9 0 = .ok (.lload_n 0, 1) := by decide +kernel
theorem dJ9_max_f86c9_1 : decode cJ9_max_f86c9 1 = .ok (.lload_n 2, 1) := by decide +kernel
theorem dJ9_max_f86c9_2 : decode cJ9_max_f86c9 2 = .ok (.lcmp, 1) := by decide +kernel
theorem dJ9_max_f86c9_3 : decode cJ9_max_f86c9 3 = .ok (.ifCond .lt 7, 3) := by decide +kernel
theorem dJ9_max_f86c9_6 : decode cJ9_max_f86c9 6 = .ok (.lload_n 0, 1) := by decide +kernel
theorem dJ9_max_f86c9_7 : decode cJ9_max_f86c9 7 = .ok (.goto 4, 3) := by decide +kernel
theorem dJ9_max_f86c9_10 : decode cJ9_max_f86c9 10 = .ok (.lload_n 2, 1) := by decide +kernel
theorem dJ9_max_f86c9_11 : decode cJ9_max_f86c9 11 = .ok (.lreturn, 1) := by decide +kernel
theorem dJ9_min_7cf53_0 : decode cJ9_min_7cf53 0 = .ok (.iload_n 0, 1) := by decide +kernel
theorem dJ9_min_7cf53_1 : decode cJ9_min_7cf53 1 = .ok (.iload_n 1, 1) := by decide +kernel
theorem dJ9_min_7cf53_2 : decode cJ9_min_7cf53 2 = .ok (.if_icmp .gt 7, 3) := by decide +kernel
theorem dJ9_min_7cf53_5 : decode cJ9_min_7cf53 5 = .ok (.iload_n 0, 1) := by decide +kernel
theorem dJ9_min_7cf53_6 : decode cJ9_min_7cf53 6 = .ok (.goto 4, 3) := by decide +kernel
theorem dJ9_min_7cf53_9 : decode cJ9_min_7cf53 9 = .ok (.iload_n 1, 1) := by decide +kernel
theorem dJ9_min_7cf53_10 : decode cJ9_min_7cf53 10 = .ok (.ireturn, 1) := by decide +kernel
theorem dJ0_length_8abf5_0 : decode cJ0_length_8abf5 0 = .ok (.aload_n 0, 1) := by decide +kernel
theorem dJ0_length_8abf5_1 : decode cJ0_length_8abf5 1 = .ok (.getfield 9, 3) := by decide +kernel
theorem dJ0_length_8abf5_4 : decode cJ0_length_8abf5 4 = .ok (.arraylength, 1) := by decide +kernel
theorem dJ0_length_8abf5_5 : decode cJ0_length_8abf5 5 = .ok (.aload_n 0, 1) := by decide +kernel
theorem dJ0_length_8abf5_6 : decode cJ0_length_8abf5 6 = .ok (.invokevirtual 335, 3) := by decide +kernel
theorem dJ0_length_8abf5_9 : decode cJ0_length_8abf5 9 = .ok (.ishr, 1) := by decide +kernel
theorem dJ0_length_8abf5_10 : decode cJ0_length_8abf5 10 = .ok (.ireturn, 1) := by decide +kernel
theorem dJ0_charAt_5068e_0 : decode cJ0_charAt_5068e 0 = .ok (.aload_n 0, 1) := by decide +kernel
theorem dJ0_charAt_5068e_1 : decode cJ0_charAt_5068e 1 = .ok (.invokevirtual 492, 3) := by decide +kernel
theorem dJ0_charAt_5068e_4 : decode cJ0_charAt_5068e 4 = .ok (.ifCond .eq 12, 3) := by decide +kernel
theorem dJ0_charAt_5068e_7 : decode cJ0_charAt_5068e 7 = .ok (.aload_n 0, 1) := by decide +kernel
theorem dJ0_charAt_5068e_8 : decode cJ0_charAt_5068e 8 = .ok (.getfield 9, 3) := by decide +kernel
theorem dJ0_charAt_5068e_11 : decode cJ0_charAt_5068e 11 = .ok (.iload_n 1, 1) := by decide +kernel
theorem dJ0_charAt_5068e_12 : decode cJ0_charAt_5068e 12 = .ok (.invokestatic 495, 3) := by decide +kernel
theorem dJ0_charAt_5068e_15 : decode cJ0_charAt_5068e 15 = .ok (.ireturn, 1) := by decide +kernel
theorem dJ0_charAt_5068e_16 : decode cJ0_charAt_5068e 16 = .ok (.aload_n 0, 1) := by decide +kernel
theorem dJ0_charAt_5068e_17 : decode cJ0_charAt_5068e 17 = .ok (.getfield 9, 3) := by decide +kernel
theorem dJ0_charAt_5068e_20 : decode cJ0_charAt_5068e 20 = .ok (.iload_n 1, 1) := by decide +kernel
theorem dJ0_charAt_5068e_21 : decode cJ0_charAt_5068e 21 = .ok (.invokestatic 498, 3) := by decide +kernel
theorem dJ0_charAt_5068e_24 : decode cJ0_charAt_5068e 24 = .ok (.ireturn, 1) := by decide +kernel
theorem dJ0_coder_7d493_0 : decode cJ0_coder_7d493 0 = .ok (.getstatic 38, 3) := by decide +kernel
theorem dJ0_coder_7d493_3 : decode cJ0_coder_7d493 3 = .ok (.ifCond .eq 10, 3) := by decide +kernel
theorem dJ0_coder_7d493_6 : decode cJ0_coder_7d493 6 = .ok (.aload_n 0, 1) := by decide +kernel
theorem dJ0_coder_7d493_7 : decode cJ0_coder_7d493 7 = .ok (.getfield 15, 3) := by decide +kernel
theorem dJ0_coder_7d493_10 : decode cJ0_coder_7d493 10 = .ok (.goto 4, 3) := by decide +kernel
theorem dJ0_coder_7d493_13 : decode cJ0_coder_7d493 13 = .ok (.iconst 1, 1) := by decide +kernel
theorem dJ0_coder_7d493_14 : decode cJ0_coder_7d493 14 = .ok (.ireturn, 1) := by decide +kernel
theorem dJ0_isLatin1_aae02_0 : decode cJ0_isLatin1_aae02 0 = .ok (.getstatic 38, 3) := by decide +kernel
theorem dJ0_isLatin1_aae02_3 : decode cJ0_isLatin1_aae02 3 = .ok (.ifCond .eq 14, 3) := by decide +kernel
theorem dJ0_isLatin1_aae02_6 : decode cJ0_isLatin1_aae02 6 = .ok (.aload_n 0, 1) := by decide +kernel
theorem dJ0_isLatin1_aae02_7 : decode cJ0_isLatin1_aae02 7 = .ok (.getfield 15, 3) := by decide +kernel
theorem dJ0_isLatin1_aae02_10 : decode cJ0_isLatin1_aae02 10 = .ok (.ifCond .ne 7, 3) := by decide +kernel
theorem dJ0_isLatin1_aae02_13 : decode cJ0_isLatin1_aae02 13 = .ok (.iconst 1, 1) := by decide +kernel
theorem dJ0_isLatin1_aae02_14 : decode cJ0_isLatin1_aae02 14 = .ok (.goto 4, 3) := by decide +kernel
theorem dJ0_isLatin1_aae02_17 : decode cJ0_isLatin1_aae02 17 = .ok (.iconst 0, 1) := by decide +kernel
theorem dJ0_isLatin1_aae02_18 : decode cJ0_isLatin1_aae02 18 = .ok (.ireturn, 1) := by decide +kernel
theorem dJ0_checkIndex_df160_0 : decode cJ0_checkIndex_df160 0 = .ok (.iload_n 0, 1) := by decide +kernel
theorem dJ0_checkIndex_df160_1 : decode cJ0_checkIndex_df160 1 = .ok (.iload_n 1, 1) := by decide +kernel
theorem dJ0_checkIndex_df160_2 : decode cJ0_checkIndex_df160 2 = .ok (.getstatic 1053, 3) := by decide +kernel
theorem dJ0_checkIndex_df160_5 : decode cJ0_checkIndex_df160 5 = .ok (.invokestatic 1059, 3) := by decide +kernel
theorem dJ0_checkIndex_df160_8 : decode cJ0_checkIndex_df160 8 = .ok (.pop, 1) := by decide +kernel
theorem dJ0_checkIndex_df160_9 : decode cJ0_checkIndex_df160 9 = .ok (.return_, 1) := by decide +kernel
theorem dJ1_charAt_3b067_0 : decode cJ1_charAt_3b067 0 = .ok (.iload_n 1, 1) := by decide +kernel
theorem dJ1_charAt_3b067_1 : decode cJ1_charAt_3b067 1 = .ok (.aload_n 0, 1) := by decide +kernel
theorem dJ1_charAt_3b067_2 : decode cJ1_charAt_3b067 2 = .ok (.arraylength, 1) := by decide +kernel
theorem dJ1_charAt_3b067_3 : decode cJ1_charAt_3b067 3 = .ok (.invokestatic 9, 3) := by decide +kernel
theorem dJ1_charAt_3b067_6 : decode cJ1_charAt_3b067 6 = .ok (.aload_n 0, 1) := by decide +kernel
theorem dJ1_charAt_3b067_7 : decode cJ1_charAt_3b067 7 = .ok (.iload_n 1, 1) := by decide +kernel
theorem dJ1_charAt_3b067_8 : decode cJ1_charAt_3b067 8 = .ok (.baload, 1) := by decide +kernel
theorem dJ1_charAt_3b067_9 : decode cJ1_charAt_3b067 9 = .ok (.sipush 255, 3) := by decide +kernel
theorem dJ1_charAt_3b067_12 : decode cJ1_charAt_3b067 12 = .ok (.iand, 1) := by decide +kernel
theorem dJ1_charAt_3b067_13 : decode cJ1_charAt_3b067 13 = .ok (.i2c, 1) := by decide +kernel
theorem dJ1_charAt_3b067_14 : decode cJ1_charAt_3b067 14 = .ok (.ireturn, 1) := by decide +kernel
theorem dJ2_getChar_3b067_0 : decode cJ2_getChar_3b067 0 = .ok (.getstatic 44, 3) := by decide +kernel
theorem dJ2_getChar_3b067_3 : decode cJ2_getChar_3b067 3 = .ok (.ifCond .ne 25, 3) := by decide +kernel
theorem dJ2_getChar_3b067_6 : decode cJ2_getChar_3b067 6 = .ok (.iload_n 1, 1) := by decide +kernel
theorem dJ2_getChar_3b067_7 : decode cJ2_getChar_3b067 7 = .ok (.ifCond .lt 11, 3) := by decide +kernel
theorem dJ2_getChar_3b067_10 : decode cJ2_getChar_3b067 10 = .ok (.iload_n 1, 1) := by decide +kernel
theorem dJ2_getChar_3b067_11 : decode cJ2_getChar_3b067 11 = .ok (.aload_n 0, 1) := by decide +kernel
theorem dJ2_getChar_3b067_12 : decode cJ2_getChar_3b067 12 = .ok (.invokestatic 48, 3) := by decide +kernel
theorem dJ2_getChar_3b067_15 : decode cJ2_getChar_3b067 15 = .ok (.if_icmp .lt 13, 3) := by decide +kernel
theorem dJ2_getChar_3b067_18 : decode cJ2_getChar_3b067 18 = .ok (.new 52, 3) := by decide +kernel
theorem dJ2_getChar_3b067_21 : decode cJ2_getChar_3b067 21 = .ok (.dup, 1) := by decide +kernel
theorem dJ2_getChar_3b067_22 : decode cJ2_getChar_3b067 22 = .ok (.ldc 54, 2) := by decide +kernel
theorem dJ2_getChar_3b067_24 : decode cJ2_getChar_3b067 24 = .ok (.invokespecial 56, 3) := by decide +kernel
theorem dJ2_getChar_3b067_27 : decode cJ2_getChar_3b067 27 = .ok (.athrow, 1) := by decide +kernel
theorem dJ2_getChar_3b067_28 : decode cJ2_getChar_3b067 28 = .ok (.iload_n 1, 1) := by decide +kernel
theorem dJ2_getChar_3b067_29 : decode cJ2_getChar_3b067 29 = .ok (.iconst 1, 1) := by decide +kernel
theorem dJ2_getChar_3b067_30 : decode cJ2_getChar_3b067 30 = .ok (.ishl, 1) := by decide +kernel
theorem dJ2_getChar_3b067_31 : decode cJ2_getChar_3b067 31 = .ok (.istore_n 1, 1) := by decide +kernel
theorem dJ2_getChar_3b067_32 : decode cJ2_getChar_3b067 32 = .ok (.aload_n 0, 1) := by decide +kernel
theorem dJ2_getChar_3b067_33 : decode cJ2_getChar_3b067 33 = .ok (.iload_n 1, 1) := by decide +kernel
theorem dJ2_getChar_3b067_34 : decode cJ2_getChar_3b067 34 = .ok (.iinc 1 1, 3) := by decide +kernel
theorem dJ2_getChar_3b067_37 : decode cJ2_getChar_3b067 37 = .ok (.baload, 1) := by decide +kernel
theorem dJ2_getChar_3b067_38 : decode cJ2_getChar_3b067 38 = .ok (.sipush 255, 3) := by decide +kernel
theorem dJ2_getChar_3b067_41 : decode cJ2_getChar_3b067 41 = .ok (.iand, 1) := by decide +kernel
theorem dJ2_getChar_3b067_42 : decode cJ2_getChar_3b067 42 = .ok (.getstatic 59, 3) := by decide +kernel
theorem dJ2_getChar_3b067_45 : decode cJ2_getChar_3b067 45 = .ok (.ishl, 1) := by decide +kernel
theorem dJ2_getChar_3b067_46 : decode cJ2_getChar_3b067 46 = .ok (.aload_n 0, 1) := by decide +kernel
theorem dJ2_getChar_3b067_47 : decode cJ2_getChar_3b067 47 = .ok (.iload_n 1, 1) := by decide +kernel
theorem dJ2_getChar_3b067_48 : decode cJ2_getChar_3b067 48 = .ok (.baload, 1) := by decide +kernel
theorem dJ2_getChar_3b067_49 : decode cJ2_getChar_3b067 49 = .ok (.sipush 255, 3) := by decide +kernel
theorem dJ2_getChar_3b067_52 : decode cJ2_getChar_3b067 52 = .ok (.iand, 1) := by decide +kernel
theorem dJ2_getChar_3b067_53 : decode cJ2_getChar_3b067 53 = .ok (.getstatic 63, 3) := by decide +kernel
theorem dJ2_getChar_3b067_56 : decode cJ2_getChar_3b067 56 = .ok (.ishl, 1) := by decide +kernel
theorem dJ2_getChar_3b067_57 : decode cJ2_getChar_3b067 57 = .ok (.ior, 1) := by decide +kernel
theorem dJ2_getChar_3b067_58 : decode cJ2_getChar_3b067 58 = .ok (.i2c, 1) := by decide +kernel
theorem dJ2_getChar_3b067_59 : decode cJ2_getChar_3b067 59 = .ok (.ireturn, 1) := by decide +kernel
theorem dJ2_length_9d52b_0 : decode cJ2_length_9d52b 0 = .ok (.aload_n 0, 1) := by decide +kernel
theorem dJ2_length_9d52b_1 : decode cJ2_length_9d52b 1 = .ok (.arraylength, 1) := by decide +kernel
theorem dJ2_length_9d52b_2 : decode cJ2_length_9d52b 2 = .ok (.iconst 1, 1) := by decide +kernel
theorem dJ2_length_9d52b_3 : decode cJ2_length_9d52b 3 = .ok (.ishr, 1) := by decide +kernel
theorem dJ2_length_9d52b_4 : decode cJ2_length_9d52b 4 = .ok (.ireturn, 1) := by decide +kernel
theorem dJ2_charAt_3b067_0 : decode cJ2_charAt_3b067 0 = .ok (.iload_n 1, 1) := by decide +kernel
theorem dJ2_charAt_3b067_1 : decode cJ2_charAt_3b067 1 = .ok (.aload_n 0, 1) := by decide +kernel
theorem dJ2_charAt_3b067_2 : decode cJ2_charAt_3b067 2 = .ok (.invokestatic 67, 3) := by decide +kernel
theorem dJ2_charAt_3b067_5 : decode cJ2_charAt_3b067 5 = .ok (.aload_n 0, 1) := by decide +kernel
theorem dJ2_charAt_3b067_6 : decode cJ2_charAt_3b067 6 = .ok (.iload_n 1, 1) := by decide +kernel
theorem dJ2_charAt_3b067_7 : decode cJ2_charAt_3b067 7 = .ok (.invokestatic 71, 3) := by decide +kernel
theorem dJ2_charAt_3b067_10 : decode cJ2_charAt_3b067 10 = .ok (.ireturn, 1) := by decide +kernel
theorem dJ2_checkIndex_2214a_0 : decode cJ2_checkIndex_2214a 0 = .ok (.iload_n 0, 1) := by decide +kernel
theorem dJ2_checkIndex_2214a_1 : decode cJ2_checkIndex_2214a 1 = .ok (.aload_n 1, 1) := by decide +kernel
theorem dJ2_checkIndex_2214a_2 : decode cJ2_checkIndex_2214a 2 = .ok (.invokestatic 48, 3) := by decide +kernel
theorem dJ2_checkIndex_2214a_5 : decode cJ2_checkIndex_2214a 5 = .ok (.invokestatic 414, 3) := by decide +kernel
theorem dJ2_checkIndex_2214a_8 : decode cJ2_checkIndex_2214a 8 = .ok (.return_, 1) := by decide +kernel
theorem dJ7_fill_53178_0 : decode cJ7_fill_53178 0 = .ok (.iconst 0, 1) := by decide +kernel
theorem dJ7_fill_53178_1 : decode cJ7_fill_53178 1 = .ok (.istore_n 2, 1) := by decide +kernel
theorem dJ7_fill_53178_2 : decode cJ7_fill_53178 2 = .ok (.aload_n 0, 1) := by decide +kernel
theorem dJ7_fill_53178_3 : decode cJ7_fill_53178 3 = .ok (.arraylength, 1) := by decide +kernel
theorem dJ7_fill_53178_4 : decode cJ7_fill_53178 4 = .ok (.istore_n 3, 1) := by decide +kernel
theorem dJ7_fill_53178_5 : decode cJ7_fill_53178 5 = .ok (.iload_n 2, 1) := by decide +kernel
theorem dJ7_fill_53178_6 : decode cJ7_fill_53178 6 = .ok (.iload_n 3, 1) := by decide +kernel
theorem dJ7_fill_53178_7 : decode cJ7_fill_53178 7 = .ok (.if_icmp .ge 13, 3) := by decide +kernel
theorem dJ7_fill_53178_10 : decode cJ7_fill_53178 10 = .ok (.aload_n 0, 1) := by decide +kernel
theorem dJ7_fill_53178_11 : decode cJ7_fill_53178 11 = .ok (.iload_n 2, 1) := by decide +kernel
theorem dJ7_fill_53178_12 : decode cJ7_fill_53178 12 = .ok (.iload_n 1, 1) := by decide +kernel
theorem dJ7_fill_53178_13 : decode cJ7_fill_53178 13 = .ok (.iastore, 1) := by decide +kernel
theorem dJ7_fill_53178_14 : decode cJ7_fill_53178 14 = .ok (.iinc 2 1, 3) := by decide +kernel
theorem dJ7_fill_53178_17 : decode cJ7_fill_53178 17 = .ok (.goto (-12), 3) := by decide +kernel
theorem dJ7_fill_53178_20 : decode cJ7_fill_53178 20 = .ok (.return_, 1) := by decide +kernel
theorem dJ3_checkIndex_8e157_0 : decode cJ3_checkIndex_8e157 0 = .ok (.iload_n 0, 1) := by decide +kernel
theorem dJ3_checkIndex_8e157_1 : decode cJ3_checkIndex_8e157 1 = .ok (.ifCond .lt 8, 3) := by decide +kernel
theorem dJ3_checkIndex_8e157_4 : decode cJ3_checkIndex_8e157 4 = .ok (.iload_n 0, 1) := by decide +kernel
theorem dJ3_checkIndex_8e157_5 : decode cJ3_checkIndex_8e157 5 = .ok (.iload_n 1, 1) := by decide +kernel
theorem dJ3_checkIndex_8e157_6 : decode cJ3_checkIndex_8e157 6 = .ok (.if_icmp .lt 10, 3) := by decide +kernel
theorem dJ3_checkIndex_8e157_9 : decode cJ3_checkIndex_8e157 9 = .ok (.aload_n 2, 1) := by decide +kernel
theorem dJ3_checkIndex_8e157_10 : decode cJ3_checkIndex_8e157 10 = .ok (.iload_n 0, 1) := by decide +kernel
theorem dJ3_checkIndex_8e157_11 : decode cJ3_checkIndex_8e157 11 = .ok (.iload_n 1, 1) := by decide +kernel
theorem dJ3_checkIndex_8e157_12 : decode cJ3_checkIndex_8e157 12 = .ok (.invokestatic 95, 3) := by decide +kernel
theorem dJ3_checkIndex_8e157_15 : decode cJ3_checkIndex_8e157 15 = .ok (.athrow, 1) := by decide +kernel
theorem dJ3_checkIndex_8e157_16 : decode cJ3_checkIndex_8e157 16 = .ok (.iload_n 0, 1) := by decide +kernel
theorem dJ3_checkIndex_8e157_17 : decode cJ3_checkIndex_8e157 17 = .ok (.ireturn, 1) := by decide +kernel
