theorem dX0_init_0 : decode cX0_init 0 = .ok (.aload_n 0, 1) := by decide +kernel
theorem dX0_init_1 : decode cX0_init 1 = .ok (.invokespecial 3, 3) := by decide +kernel
theorem dX0_init_4 : decode cX0_init 4 = .ok (.aload_n 0, 1) := by decide +kernel
theorem dX0_init_5 : decode cX0_init 5 = .ok (.bipush 7, 2) := by decide +kernel
theorem dX0_init_7 : decode cX0_init 7 = .ok (.newarray .int, 2) := by decide +kernel
theorem dX0_init_9 : decode cX0_init 9 = .ok (.putfield 9, 3) := by decide +kernel
theorem dX0_init_12 : decode cX0_init 12 = .ok (.aload_n 0, 1) := by decide +kernel
theorem dX0_init_13 : decode cX0_init 13 = .ok (.bipush 7, 2) := by decide +kernel
theorem dX0_init_15 : decode cX0_init 15 = .ok (.newarray .int, 2) := by decide +kernel
theorem dX0_init_17 : decode cX0_init 17 = .ok (.putfield 15, 3) := by decide +kernel
theorem dX0_init_20 : decode cX0_init 20 = .ok (.aload_n 0, 1) := by decide +kernel
theorem dX0_init_21 : decode cX0_init 21 = .ok (.bipush 7, 2) := by decide +kernel
theorem dX0_init_23 : decode cX0_init 23 = .ok (.newarray .int, 2) := by decide +kernel
theorem dX0_init_25 : decode cX0_init 25 = .ok (.putfield 18, 3) := by decide +kernel
theorem dX0_init_28 : decode cX0_init 28 = .ok (.aload_n 0, 1) := by decide +kernel
theorem dX0_init_29 : decode cX0_init 29 = .ok (.bipush 7, 2) := by decide +kernel
theorem dX0_init_31 : decode cX0_init 31 = .ok (.newarray .int, 2) := by decide +kernel
theorem dX0_init_33 : decode cX0_init 33 = .ok (.putfield 21, 3) := by decide +kernel
theorem dX0_init_36 : decode cX0_init 36 = .ok (.aload_n 0, 1) := by decide +kernel
theorem dX0_init_37 : decode cX0_init 37 = .ok (.sipush 421, 3) := by decide +kernel
theorem dX0_init_40 : decode cX0_init 40 = .ok (.newarray .int, 2) := by decide +kernel
theorem dX0_init_42 : decode cX0_init 42 = .ok (.putfield 24, 3) := by decide +kernel
theorem dX0_init_45 : decode cX0_init 45 = .ok (.aload_n 0, 1) := by decide +kernel
theorem dX0_init_46 : decode cX0_init 46 = .ok (.sipush 421, 3) := by decide +kernel
theorem dX0_init_49 : decode cX0_init 49 = .ok (.newarray .int, 2) := by decide +kernel
theorem dX0_init_51 : decode cX0_init 51 = .ok (.putfield 27, 3) := by decide +kernel
theorem dX0_init_54 : decode cX0_init 54 = .ok (.aload_n 0, 1) := by decide +kernel
theorem dX0_init_55 : decode cX0_init 55 = .ok (.sipush 421, 3) := by decide +kernel
theorem dX0_init_58 : decode cX0_init 58 = .ok (.newarray .int, 2) := by decide +kernel
theorem dX0_init_60 : decode cX0_init 60 = .ok (.putfield 30, 3) := by decide +kernel
theorem dX0_init_63 : decode cX0_init 63 = .ok (.aload_n 0, 1) := by decide +kernel
theorem dX0_init_64 : decode cX0_init 64 = .ok (.sipush 421, 3) := by decide +kernel
theorem dX0_init_67 : decode cX0_init 67 = .ok (.newarray .int, 2) := by decide +kernel
theorem dX0_init_69 : decode cX0_init 69 = .ok (.putfield 33, 3) := by decide +kernel
theorem dX0_init_72 : decode cX0_init 72 = .ok (.aload_n 0, 1) := by decide +kernel
theorem dX0_init_73 : decode cX0_init 73 = .ok (.sipush 288, 3) := by decide +kernel
theorem dX0_init_76 : decode cX0_init 76 = .ok (.newarray .int, 2) := by decide +kernel
theorem dX0_init_78 : decode cX0_init 78 = .ok (.putfield 36, 3) := by decide +kernel
theorem dX0_init_81 : decode cX0_init 81 = .ok (.return_, 1) := by decide +kernel
theorem dX0_begin_0 : decode cX0_begin 0 = .ok (.aload_n 0, 1) := by decide +kernel
theorem dX0_begin_1 : decode cX0_begin 1 = .ok (.iconst 0, 1) := by decide +kernel
theorem dX0_begin_2 : decode cX0_begin 2 = .ok (.putfield 39, 3) := by decide +kernel
theorem dX0_begin_5 : decode cX0_begin 5 = .ok (.aload_n 0, 1) := by decide +kernel
theorem dX0_begin_6 : decode cX0_begin 6 = .ok (.iconst 0, 1) := by decide +kernel
theorem dX0_begin_7 : decode cX0_begin 7 = .ok (.putfield 43, 3) := by decide +kernel
theorem dX0_begin_10 : decode cX0_begin 10 = .ok (.aload_n 1, 1) := by decide +kernel
theorem dX0_begin_11 : decode cX0_begin 11 = .ok (.getfield 46, 3) := by decide +kernel
theorem dX0_begin_14 : decode cX0_begin 14 = .ok (.aload_n 0, 1) := by decide +kernel
theorem dX0_begin_15 : decode cX0_begin 15 = .ok (.getfield 9, 3) := by decide +kernel
theorem dX0_begin_18 : decode cX0_begin 18 = .ok (.invokestatic 51, 3) := by decide +kernel
theorem dX0_begin_21 : decode cX0_begin 21 = .ok (.aload_n 1, 1) := by decide +kernel
theorem dX0_begin_22 : decode cX0_begin 22 = .ok (.getfield 55, 3) := by decide +kernel
theorem dX0_begin_25 : decode cX0_begin 25 = .ok (.aload_n 0, 1) := by decide +kernel
theorem dX0_begin_26 : decode cX0_begin 26 = .ok (.getfield 15, 3) := by decide +kernel
theorem dX0_begin_29 : decode cX0_begin 29 = .ok (.invokestatic 51, 3) := by decide +kernel
theorem dX0_begin_32 : decode cX0_begin 32 = .ok (.aload_n 0, 1) := by decide +kernel
theorem dX0_begin_33 : decode cX0_begin 33 = .ok (.getfield 18, 3) := by decide +kernel
theorem dX0_begin_36 : decode cX0_begin 36 = .ok (.iconst 0, 1) := by decide +kernel
theorem dX0_begin_37 : decode cX0_begin 37 = .ok (.invokestatic 58, 3) := by decide +kernel
theorem dX0_begin_40 : decode cX0_begin 40 = .ok (.aload_n 0, 1) := by decide +kernel
theorem dX0_begin_41 : decode cX0_begin 41 = .ok (.getfield 21, 3) := by decide +kernel
theorem dX0_begin_44 : decode cX0_begin 44 = .ok (.iconst 0, 1) := by decide +kernel
theorem dX0_begin_45 : decode cX0_begin 45 = .ok (.invokestatic 58, 3) := by decide +kernel
theorem dX0_begin_48 : decode cX0_begin 48 = .ok (.aload_n 0, 1) := by decide +kernel
theorem dX0_begin_49 : decode cX0_begin 49 = .ok (.getfield 36, 3) := by decide +kernel
theorem dX0_begin_52 : decode cX0_begin 52 = .ok (.iconst 0, 1) := by decide +kernel
theorem dX0_begin_53 : decode cX0_begin 53 = .ok (.invokestatic 58, 3) := by decide +kernel
theorem dX0_begin_56 : decode cX0_begin 56 = .ok (.return_, 1) := by decide +kernel
theorem dX0_copy_0 : decode cX0_copy 0 = .ok (.aload_n 0, 1) := by decide +kernel
theorem dX0_copy_1 : decode cX0_copy 1 = .ok (.aload_n 1, 1) := by decide +kernel
theorem dX0_copy_2 : decode cX0_copy 2 = .ok (.getfield 39, 3) := by decide +kernel
theorem dX0_copy_5 : decode cX0_copy 5 = .ok (.putfield 39, 3) := by decide +kernel
theorem dX0_copy_8 : decode cX0_copy 8 = .ok (.aload_n 0, 1) := by decide +kernel
theorem dX0_copy_9 : decode cX0_copy 9 = .ok (.aload_n 1, 1) := by decide +kernel
theorem dX0_copy_10 : decode cX0_copy 10 = .ok (.getfield 43, 3) := by decide +kernel
theorem dX0_copy_13 : decode cX0_copy 13 = .ok (.putfield 43, 3) := by decide +kernel
theorem dX0_copy_16 : decode cX0_copy 16 = .ok (.aload_n 1, 1) := by decide +kernel
theorem dX0_copy_17 : decode cX0_copy 17 = .ok (.getfield 9, 3) := by decide +kernel
theorem dX0_copy_20 : decode cX0_copy 20 = .ok (.aload_n 0, 1) := by decide +kernel
theorem dX0_copy_21 : decode cX0_copy 21 = .ok (.getfield 9, 3) := by decide +kernel
theorem dX0_copy_24 : decode cX0_copy 24 = .ok (.invokestatic 51, 3) := by decide +kernel
theorem dX0_copy_27 : decode cX0_copy 27 = .ok (.aload_n 1, 1) := by decide +kernel
theorem dX0_copy_28 : decode cX0_copy 28 = .ok (.getfield 15, 3) := by decide +kernel
theorem dX0_copy_31 : decode cX0_copy 31 = .ok (.aload_n 0, 1) := by decide +kernel
theorem dX0_copy_32 : decode cX0_copy 32 = .ok (.getfield 15, 3) := by decide +kernel
theorem dX0_copy_35 : decode cX0_copy 35 = .ok (.invokestatic 51, 3) := by decide +kernel
theorem dX0_copy_38 : decode cX0_copy 38 = .ok (.aload_n 1, 1) := by decide +kernel
theorem dX0_copy_39 : decode cX0_copy 39 = .ok (.getfield 18, 3) := by decide +kernel
theorem dX0_copy_42 : decode cX0_copy 42 = .ok (.aload_n 0, 1) := by decide +kernel
theorem dX0_copy_43 : decode cX0_copy 43 = .ok (.getfield 18, 3) := by decide +kernel
theorem dX0_copy_46 : decode cX0_copy 46 = .ok (.invokestatic 51, 3) := by decide +kernel
theorem dX0_copy_49 : decode cX0_copy 49 = .ok (.aload_n 1, 1) := by decide +kernel
theorem dX0_copy_50 : decode cX0_copy 50 = .ok (.getfield 21, 3) := by decide +kernel
theorem dX0_copy_53 : decode cX0_copy 53 = .ok (.aload_n 0, 1) := by decide +kernel
theorem dX0_copy_54 : decode cX0_copy 54 = .ok (.getfield 21, 3) := by decide +kernel
theorem dX0_copy_57 : decode cX0_copy 57 = .ok (.invokestatic 51, 3) := by decide +kernel
theorem dX0_copy_60 : decode cX0_copy 60 = .ok (.aload_n 1, 1) := by decide +kernel
theorem dX0_copy_61 : decode cX0_copy 61 = .ok (.getfield 24, 3) := by decide +kernel
theorem dX0_copy_64 : decode cX0_copy 64 = .ok (.aload_n 0, 1) := by decide +kernel
theorem dX0_copy_65 : decode cX0_copy 65 = .ok (.getfield 24, 3) := by decide +kernel
theorem dX0_copy_68 : decode cX0_copy 68 = .ok (.invokestatic 51, 3) := by decide +kernel
theorem dX0_copy_71 : decode cX0_copy 71 = .ok (.aload_n 1, 1) := by decide +kernel
theorem dX0_copy_72 : decode cX0_copy 72 = .ok (.getfield 27, 3) := by decide +kernel
theorem dX0_copy_75 : decode cX0_copy 75 = .ok (.aload_n 0, 1) := by decide +kernel
theorem dX0_copy_76 : decode cX0_copy 76 = .ok (.getfield 27, 3) := by decide +kernel
theorem dX0_copy_79 : decode cX0_copy 79 = .ok (.invokestatic 51, 3) := by decide +kernel
theorem dX0_copy_82 : decode cX0_copy 82 = .ok (.aload_n 1, 1) := by decide +kernel
theorem dX0_copy_83 : decode cX0_copy 83 = .ok (.getfield 30, 3) := by decide +kernel
theorem dX0_copy_86 : decode cX0_copy 86 = .ok (.aload_n 0, 1) := by decide +kernel
theorem dX0_copy_87 : decode cX0_copy 87 = .ok (.getfield 30, 3) := by decide +kernel
theorem dX0_copy_90 : decode cX0_copy 90 = .ok (.invokestatic 51, 3) := by decide +kernel
theorem dX0_copy_93 : decode cX0_copy 93 = .ok (.aload_n 1, 1) := by decide +kernel
theorem dX0_copy_94 : decode cX0_copy 94 = .ok (.getfield 33, 3) := by decide +kernel
theorem dX0_copy_97 : decode cX0_copy 97 = .ok (.aload_n 0, 1) := by decide +kernel
theorem dX0_copy_98 : decode cX0_copy 98 = .ok (.getfield 33, 3) := by decide +kernel
theorem dX0_copy_101 : decode cX0_copy 101 = .ok (.invokestatic 51, 3) := by decide +kernel
theorem dX0_copy_104 : decode cX0_copy 104 = .ok (.aload_n 1, 1) := by decide +kernel
theorem dX0_copy_105 : decode cX0_copy 105 = .ok (.getfield 36, 3) := by decide +kernel
theorem dX0_copy_108 : decode cX0_copy 108 = .ok (.aload_n 0, 1) := by decide +kernel
theorem dX0_copy_109 : decode cX0_copy 109 = .ok (.getfield 36, 3) := by decide +kernel
theorem dX0_copy_112 : decode cX0_copy 112 = .ok (.invokestatic 51, 3) := by decide +kernel
theorem dX0_copy_115 : decode cX0_copy 115 = .ok (.return_, 1) := by decide +kernel
theorem dX0_left_0 : decode cX0_left 0 = .ok (.aload_n 1, 1) := by decide +kernel
theorem dX0_left_1 : decode cX0_left 1 = .ok (.getfield 64, 3) := by decide +kernel
theorem dX0_left_4 : decode cX0_left 4 = .ok (.iload_n 2, 1) := by decide +kernel
theorem dX0_left_5 : decode cX0_left 5 = .ok (.invokestatic 67, 3) := by decide +kernel
theorem dX0_left_8 : decode cX0_left 8 = .ok (.aload_n 0, 1) := by decide +kernel
theorem dX0_left_9 : decode cX0_left 9 = .ok (.getfield 18, 3) := by decide +kernel
theorem dX0_left_12 : decode cX0_left 12 = .ok (.iload_n 2, 1) := by decide +kernel
theorem dX0_left_13 : decode cX0_left 13 = .ok (.invokestatic 67, 3) := by decide +kernel
theorem dX0_left_16 : decode cX0_left 16 = .ok (.isub, 1) := by decide +kernel
theorem dX0_left_17 : decode cX0_left 17 = .ok (.ireturn, 1) := by decide +kernel
theorem dX0_canLay_0 : decode cX0_canLay 0 = .ok (.aload_n 0, 1) := by decide +kernel
theorem dX0_canLay_1 : decode cX0_canLay 1 = .ok (.getfield 21, 3) := by decide +kernel
theorem dX0_canLay_4 : decode cX0_canLay 4 = .ok (.iload_n 2, 1) := by decide +kernel
theorem dX0_canLay_5 : decode cX0_canLay 5 = .ok (.invokestatic 67, 3) := by decide +kernel
theorem dX0_canLay_8 : decode cX0_canLay 8 = .ok (.ifCond .ne 40, 3) := by decide +kernel
theorem dX0_canLay_11 : decode cX0_canLay 11 = .ok (.aload_n 0, 1) := by decide +kernel
theorem dX0_canLay_12 : decode cX0_canLay 12 = .ok (.aload_n 1, 1) := by decide +kernel
theorem dX0_canLay_13 : decode cX0_canLay 13 = .ok (.iload_n 2, 1) := by decide +kernel
theorem dX0_canLay_14 : decode cX0_canLay 14 = .ok (.invokevirtual 71, 3) := by decide +kernel
theorem dX0_canLay_17 : decode cX0_canLay 17 = .ok (.ifCond .le 31, 3) := by decide +kernel
theorem dX0_canLay_20 : decode cX0_canLay 20 = .ok (.aload_n 1, 1) := by decide +kernel
theorem dX0_canLay_21 : decode cX0_canLay 21 = .ok (.aload_n 0, 1) := by decide +kernel
theorem dX0_canLay_22 : decode cX0_canLay 22 = .ok (.getfield 9, 3) := by decide +kernel
theorem dX0_canLay_25 : decode cX0_canLay 25 = .ok (.iload_n 2, 1) := by decide +kernel
theorem dX0_canLay_26 : decode cX0_canLay 26 = .ok (.invokestatic 67, 3) := by decide +kernel
theorem dX0_canLay_29 : decode cX0_canLay 29 = .ok (.aload_n 0, 1) := by decide +kernel
theorem dX0_canLay_30 : decode cX0_canLay 30 = .ok (.getfield 15, 3) := by decide +kernel
theorem dX0_canLay_33 : decode cX0_canLay 33 = .ok (.iload_n 2, 1) := by decide +kernel
theorem dX0_canLay_34 : decode cX0_canLay 34 = .ok (.invokestatic 67, 3) := by decide +kernel
theorem dX0_canLay_37 : decode cX0_canLay 37 = .ok (.iload_n 3, 1) := by decide +kernel
theorem dX0_canLay_38 : decode cX0_canLay 38 = .ok (.invokevirtual 75, 3) := by decide +kernel
theorem dX0_canLay_41 : decode cX0_canLay 41 = .ok (.ifCond .eq 7, 3) := by decide +kernel
theorem dX0_canLay_44 : decode cX0_canLay 44 = .ok (.iconst 1, 1) := by decide +kernel
theorem dX0_canLay_45 : decode cX0_canLay 45 = .ok (.goto 4, 3) := by decide +kernel
theorem dX0_canLay_48 : decode cX0_canLay 48 = .ok (.iconst 0, 1) := by decide +kernel
theorem dX0_canLay_49 : decode cX0_canLay 49 = .ok (.ireturn, 1) := by decide +kernel
theorem dX0_lay_0 : decode cX0_lay 0 = .ok (.aload_n 0, 1) := by decide +kernel
theorem dX0_lay_1 : decode cX0_lay 1 = .ok (.aload_n 1, 1) := by decide +kernel
theorem dX0_lay_2 : decode cX0_lay 2 = .ok (.iload_n 2, 1) := by decide +kernel
theorem dX0_lay_3 : decode cX0_lay 3 = .ok (.iload_n 3, 1) := by decide +kernel
theorem dX0_lay_4 : decode cX0_lay 4 = .ok (.invokevirtual 79, 3) := by decide +kernel
theorem dX0_lay_7 : decode cX0_lay 7 = .ok (.ifCond .ne 4, 3) := by decide +kernel
theorem dX0_lay_10 : decode cX0_lay 10 = .ok (.return_, 1) := by decide +kernel
theorem dX0_lay_11 : decode cX0_lay 11 = .ok (.iload_n 2, 1) := by decide +kernel
theorem dX0_lay_12 : decode cX0_lay 12 = .ok (.aload_n 0, 1) := by decide +kernel
theorem dX0_lay_13 : decode cX0_lay 13 = .ok (.getfield 18, 3) := by decide +kernel
theorem dX0_lay_16 : decode cX0_lay 16 = .ok (.iload_n 2, 1) := by decide +kernel
theorem dX0_lay_17 : decode cX0_lay 17 = .ok (.invokestatic 67, 3) := by decide +kernel
theorem dX0_lay_20 : decode cX0_lay 20 = .ok (.invokestatic 83, 3) := by decide +kernel
theorem dX0_lay_23 : decode cX0_lay 23 = .ok (.istore 4, 2) := by decide +kernel
theorem dX0_lay_25 : decode cX0_lay 25 = .ok (.aload_n 0, 1) := by decide +kernel
theorem dX0_lay_26 : decode cX0_lay 26 = .ok (.getfield 9, 3) := by decide +kernel
theorem dX0_lay_29 : decode cX0_lay 29 = .ok (.iload_n 2, 1) := by decide +kernel
theorem dX0_lay_30 : decode cX0_lay 30 = .ok (.invokestatic 67, 3) := by decide +kernel
theorem dX0_lay_33 : decode cX0_lay 33 = .ok (.aload_n 0, 1) := by decide +kernel
theorem dX0_lay_34 : decode cX0_lay 34 = .ok (.getfield 15, 3) := by decide +kernel
theorem dX0_lay_37 : decode cX0_lay 37 = .ok (.iload_n 2, 1) := by decide +kernel
theorem dX0_lay_38 : decode cX0_lay 38 = .ok (.invokestatic 67, 3) := by decide +kernel
theorem dX0_lay_41 : decode cX0_lay 41 = .ok (.iload_n 3, 1) := by decide +kernel
theorem dX0_lay_42 : decode cX0_lay 42 = .ok (.invokestatic 87, 3) := by decide +kernel
theorem dX0_lay_45 : decode cX0_lay 45 = .ok (.istore 5, 2) := by decide +kernel
theorem dX0_lay_47 : decode cX0_lay 47 = .ok (.aload_n 0, 1) := by decide +kernel
theorem dX0_lay_48 : decode cX0_lay 48 = .ok (.dup, 1) := by decide +kernel
theorem dX0_lay_49 : decode cX0_lay 49 = .ok (.getfield 43, 3) := by decide +kernel
theorem dX0_lay_52 : decode cX0_lay 52 = .ok (.iconst 1, 1) := by decide +kernel
theorem dX0_lay_53 : decode cX0_lay 53 = .ok (.iadd, 1) := by decide +kernel
theorem dX0_lay_54 : decode cX0_lay 54 = .ok (.putfield 43, 3) := by decide +kernel
theorem dX0_lay_57 : decode cX0_lay 57 = .ok (.aload_n 0, 1) := by decide +kernel
theorem dX0_lay_58 : decode cX0_lay 58 = .ok (.getfield 24, 3) := by decide +kernel
theorem dX0_lay_61 : decode cX0_lay 61 = .ok (.iload 4, 2) := by decide +kernel
theorem dX0_lay_63 : decode cX0_lay 63 = .ok (.iload_n 3, 1) := by decide +kernel
theorem dX0_lay_64 : decode cX0_lay 64 = .ok (.invokestatic 91, 3) := by decide +kernel
theorem dX0_lay_67 : decode cX0_lay 67 = .ok (.aload_n 0, 1) := by decide +kernel
theorem dX0_lay_68 : decode cX0_lay 68 = .ok (.getfield 27, 3) := by decide +kernel
theorem dX0_lay_71 : decode cX0_lay 71 = .ok (.iload 4, 2) := by decide +kernel
theorem dX0_lay_73 : decode cX0_lay 73 = .ok (.iload 5, 2) := by decide +kernel
theorem dX0_lay_75 : decode cX0_lay 75 = .ok (.invokestatic 91, 3) := by decide +kernel
theorem dX0_lay_78 : decode cX0_lay 78 = .ok (.aload_n 0, 1) := by decide +kernel
theorem dX0_lay_79 : decode cX0_lay 79 = .ok (.getfield 30, 3) := by decide +kernel
theorem dX0_lay_82 : decode cX0_lay 82 = .ok (.iload 4, 2) := by decide +kernel
theorem dX0_lay_84 : decode cX0_lay 84 = .ok (.aload_n 0, 1) := by decide +kernel
theorem dX0_lay_85 : decode cX0_lay 85 = .ok (.getfield 36, 3) := by decide +kernel
theorem dX0_lay_88 : decode cX0_lay 88 = .ok (.iload 5, 2) := by decide +kernel
theorem dX0_lay_90 : decode cX0_lay 90 = .ok (.invokestatic 67, 3) := by decide +kernel
theorem dX0_lay_93 : decode cX0_lay 93 = .ok (.invokestatic 91, 3) := by decide +kernel
theorem dX0_lay_96 : decode cX0_lay 96 = .ok (.aload_n 0, 1) := by decide +kernel
theorem dX0_lay_97 : decode cX0_lay 97 = .ok (.getfield 33, 3) := by decide +kernel
theorem dX0_lay_100 : decode cX0_lay 100 = .ok (.iload 4, 2) := by decide +kernel
theorem dX0_lay_102 : decode cX0_lay 102 = .ok (.aload_n 0, 1) := by decide +kernel
theorem dX0_lay_103 : decode cX0_lay 103 = .ok (.getfield 43, 3) := by decide +kernel
theorem dX0_lay_106 : decode cX0_lay 106 = .ok (.invokestatic 91, 3) := by decide +kernel
theorem dX0_lay_109 : decode cX0_lay 109 = .ok (.aload_n 0, 1) := by decide +kernel
theorem dX0_lay_110 : decode cX0_lay 110 = .ok (.getfield 36, 3) := by decide +kernel
theorem dX0_lay_113 : decode cX0_lay 113 = .ok (.iload 5, 2) := by decide +kernel
theorem dX0_lay_115 : decode cX0_lay 115 = .ok (.iload 4, 2) := by decide +kernel
theorem dX0_lay_117 : decode cX0_lay 117 = .ok (.invokestatic 91, 3) := by decide +kernel
theorem dX0_lay_120 : decode cX0_lay 120 = .ok (.aload_n 0, 1) := by decide +kernel
theorem dX0_lay_121 : decode cX0_lay 121 = .ok (.getfield 18, 3) := by decide +kernel
theorem dX0_lay_124 : decode cX0_lay 124 = .ok (.iload_n 2, 1) := by decide +kernel
theorem dX0_lay_125 : decode cX0_lay 125 = .ok (.aload_n 0, 1) := by decide +kernel
theorem dX0_lay_126 : decode cX0_lay 126 = .ok (.getfield 18, 3) := by decide +kernel
theorem dX0_lay_129 : decode cX0_lay 129 = .ok (.iload_n 2, 1) := by decide +kernel
theorem dX0_lay_130 : decode cX0_lay 130 = .ok (.invokestatic 67, 3) := by decide +kernel
theorem dX0_lay_133 : decode cX0_lay 133 = .ok (.iconst 1, 1) := by decide +kernel
theorem dX0_lay_134 : decode cX0_lay 134 = .ok (.iadd, 1) := by decide +kernel
theorem dX0_lay_135 : decode cX0_lay 135 = .ok (.invokestatic 91, 3) := by decide +kernel
theorem dX0_lay_138 : decode cX0_lay 138 = .ok (.aload_n 0, 1) := by decide +kernel
theorem dX0_lay_139 : decode cX0_lay 139 = .ok (.getfield 9, 3) := by decide +kernel
theorem dX0_lay_142 : decode cX0_lay 142 = .ok (.iload_n 2, 1) := by decide +kernel
theorem dX0_lay_143 : decode cX0_lay 143 = .ok (.aload_n 0, 1) := by decide +kernel
theorem dX0_lay_144 : decode cX0_lay 144 = .ok (.getfield 9, 3) := by decide +kernel
theorem dX0_lay_147 : decode cX0_lay 147 = .ok (.iload_n 2, 1) := by decide +kernel
theorem dX0_lay_148 : decode cX0_lay 148 = .ok (.invokestatic 67, 3) := by decide +kernel
theorem dX0_lay_151 : decode cX0_lay 151 = .ok (.getstatic 95, 3) := by decide +kernel
theorem dX0_lay_154 : decode cX0_lay 154 = .ok (.iload_n 3, 1) := by decide +kernel
theorem dX0_lay_155 : decode cX0_lay 155 = .ok (.invokestatic 67, 3) := by decide +kernel
theorem dX0_lay_158 : decode cX0_lay 158 = .ok (.iadd, 1) := by decide +kernel
theorem dX0_lay_159 : decode cX0_lay 159 = .ok (.invokestatic 91, 3) := by decide +kernel
theorem dX0_lay_162 : decode cX0_lay 162 = .ok (.aload_n 0, 1) := by decide +kernel
theorem dX0_lay_163 : decode cX0_lay 163 = .ok (.getfield 15, 3) := by decide +kernel
theorem dX0_lay_166 : decode cX0_lay 166 = .ok (.iload_n 2, 1) := by decide +kernel
theorem dX0_lay_167 : decode cX0_lay 167 = .ok (.aload_n 0, 1) := by decide +kernel
theorem dX0_lay_168 : decode cX0_lay 168 = .ok (.getfield 15, 3) := by decide +kernel
theorem dX0_lay_171 : decode cX0_lay 171 = .ok (.iload_n 2, 1) := by decide +kernel
theorem dX0_lay_172 : decode cX0_lay 172 = .ok (.invokestatic 67, 3) := by decide +kernel
theorem dX0_lay_175 : decode cX0_lay 175 = .ok (.getstatic 98, 3) := by decide +kernel
theorem dX0_lay_178 : decode cX0_lay 178 = .ok (.iload_n 3, 1) := by decide +kernel
theorem dX0_lay_179 : decode cX0_lay 179 = .ok (.invokestatic 67, 3) := by decide +kernel
theorem dX0_lay_182 : decode cX0_lay 182 = .ok (.iadd, 1) := by decide +kernel
theorem dX0_lay_183 : decode cX0_lay 183 = .ok (.invokestatic 91, 3) := by decide +kernel
theorem dX0_lay_186 : decode cX0_lay 186 = .ok (.return_, 1) := by decide +kernel
theorem dX0_lastOf_0 : decode cX0_lastOf 0 = .ok (.aload_n 0, 1) := by decide +kernel
theorem dX0_lastOf_1 : decode cX0_lastOf 1 = .ok (.getfield 18, 3) := by decide +kernel
theorem dX0_lastOf_4 : decode cX0_lastOf 4 = .ok (.iload_n 1, 1) := by decide +kernel
theorem dX0_lastOf_5 : decode cX0_lastOf 5 = .ok (.invokestatic 67, 3) := by decide +kernel
theorem dX0_lastOf_8 : decode cX0_lastOf 8 = .ok (.istore_n 2, 1) := by decide +kernel
theorem dX0_lastOf_9 : decode cX0_lastOf 9 = .ok (.iload_n 2, 1) := by decide +kernel
theorem dX0_lastOf_10 : decode cX0_lastOf 10 = .ok (.ifCond .le 13, 3) := by decide +kernel
theorem dX0_lastOf_13 : decode cX0_lastOf 13 = .ok (.iload_n 1, 1) := by decide +kernel
theorem dX0_lastOf_14 : decode cX0_lastOf 14 = .ok (.iload_n 2, 1) := by decide +kernel
theorem dX0_lastOf_15 : decode cX0_lastOf 15 = .ok (.iconst 1, 1) := by decide +kernel
theorem dX0_lastOf_16 : decode cX0_lastOf 16 = .ok (.isub, 1) := by decide +kernel
theorem dX0_lastOf_17 : decode cX0_lastOf 17 = .ok (.invokestatic 83, 3) := by decide +kernel
theorem dX0_lastOf_20 : decode cX0_lastOf 20 = .ok (.goto 4, 3) := by decide +kernel
theorem dX0_lastOf_23 : decode cX0_lastOf 23 = .ok (.iconst 0, 1) := by decide +kernel
theorem dX0_lastOf_24 : decode cX0_lastOf 24 = .ok (.ireturn, 1) := by decide +kernel
theorem dX0_canTakeUp_0 : decode cX0_canTakeUp 0 = .ok (.aload_n 0, 1) := by decide +kernel
theorem dX0_canTakeUp_1 : decode cX0_canTakeUp 1 = .ok (.iload_n 1, 1) := by decide +kernel
theorem dX0_canTakeUp_2 : decode cX0_canTakeUp 2 = .ok (.invokevirtual 101, 3) := by decide +kernel
theorem dX0_canTakeUp_5 : decode cX0_canTakeUp 5 = .ok (.istore_n 2, 1) := by decide +kernel
theorem dX0_canTakeUp_6 : decode cX0_canTakeUp 6 = .ok (.iload_n 2, 1) := by decide +kernel
theorem dX0_canTakeUp_7 : decode cX0_canTakeUp 7 = .ok (.ifCond .eq 37, 3) := by decide +kernel
theorem dX0_canTakeUp_10 : decode cX0_canTakeUp 10 = .ok (.aload_n 0, 1) := by decide +kernel
theorem dX0_canTakeUp_11 : decode cX0_canTakeUp 11 = .ok (.getfield 21, 3) := by decide +kernel
theorem dX0_canTakeUp_14 : decode cX0_canTakeUp 14 = .ok (.iload_n 1, 1) := by decide +kernel
theorem dX0_canTakeUp_15 : decode cX0_canTakeUp 15 = .ok (.invokestatic 67, 3) := by decide +kernel
theorem dX0_canTakeUp_18 : decode cX0_canTakeUp 18 = .ok (.ifCond .ne 26, 3) := by decide +kernel
theorem dX0_canTakeUp_21 : decode cX0_canTakeUp 21 = .ok (.aload_n 0, 1) := by decide +kernel
theorem dX0_canTakeUp_22 : decode cX0_canTakeUp 22 = .ok (.getfield 36, 3) := by decide +kernel
theorem dX0_canTakeUp_25 : decode cX0_canTakeUp 25 = .ok (.aload_n 0, 1) := by decide +kernel
theorem dX0_canTakeUp_26 : decode cX0_canTakeUp 26 = .ok (.getfield 27, 3) := by decide +kernel
theorem dX0_canTakeUp_29 : decode cX0_canTakeUp 29 = .ok (.iload_n 2, 1) := by decide +kernel
theorem dX0_canTakeUp_30 : decode cX0_canTakeUp 30 = .ok (.invokestatic 67, 3) := by decide +kernel
theorem dX0_canTakeUp_33 : decode cX0_canTakeUp 33 = .ok (.invokestatic 67, 3) := by decide +kernel
theorem dX0_canTakeUp_36 : decode cX0_canTakeUp 36 = .ok (.iload_n 2, 1) := by decide +kernel
theorem dX0_canTakeUp_37 : decode cX0_canTakeUp 37 = .ok (.if_icmp .ne 7, 3) := by decide +kernel
theorem dX0_canTakeUp_40 : decode cX0_canTakeUp 40 = .ok (.iconst 1, 1) := by decide +kernel
theorem dX0_canTakeUp_41 : decode cX0_canTakeUp 41 = .ok (.goto 4, 3) := by decide +kernel
theorem dX0_canTakeUp_44 : decode cX0_canTakeUp 44 = .ok (.iconst 0, 1) := by decide +kernel
theorem dX0_canTakeUp_45 : decode cX0_canTakeUp 45 = .ok (.ireturn, 1) := by decide +kernel
theorem dX0_takeUp_0 : decode cX0_takeUp 0 = .ok (.aload_n 0, 1) := by decide +kernel
theorem dX0_takeUp_1 : decode cX0_takeUp 1 = .ok (.iload_n 1, 1) := by decide +kernel
theorem dX0_takeUp_2 : decode cX0_takeUp 2 = .ok (.invokevirtual 105, 3) := by decide +kernel
theorem dX0_takeUp_5 : decode cX0_takeUp 5 = .ok (.ifCond .ne 5, 3) := by decide +kernel
theorem dX0_takeUp_8 : decode cX0_takeUp 8 = .ok (.iconst 0, 1) := by decide +kernel
theorem dX0_takeUp_9 : decode cX0_takeUp 9 = .ok (.ireturn, 1) := by decide +kernel
theorem dX0_takeUp_10 : decode cX0_takeUp 10 = .ok (.aload_n 0, 1) := by decide +kernel
theorem dX0_takeUp_11 : decode cX0_takeUp 11 = .ok (.iload_n 1, 1) := by decide +kernel
theorem dX0_takeUp_12 : decode cX0_takeUp 12 = .ok (.invokevirtual 101, 3) := by decide +kernel
theorem dX0_takeUp_15 : decode cX0_takeUp 15 = .ok (.istore_n 2, 1) := by decide +kernel
theorem dX0_takeUp_16 : decode cX0_takeUp 16 = .ok (.aload_n 0, 1) := by decide +kernel
theorem dX0_takeUp_17 : decode cX0_takeUp 17 = .ok (.getfield 24, 3) := by decide +kernel
theorem dX0_takeUp_20 : decode cX0_takeUp 20 = .ok (.iload_n 2, 1) := by decide +kernel
theorem dX0_takeUp_21 : decode cX0_takeUp 21 = .ok (.invokestatic 67, 3) := by decide +kernel
theorem dX0_takeUp_24 : decode cX0_takeUp 24 = .ok (.istore_n 3, 1) := by decide +kernel
theorem dX0_takeUp_25 : decode cX0_takeUp 25 = .ok (.aload_n 0, 1) := by decide +kernel
theorem dX0_takeUp_26 : decode cX0_takeUp 26 = .ok (.getfield 36, 3) := by decide +kernel
theorem dX0_takeUp_29 : decode cX0_takeUp 29 = .ok (.aload_n 0, 1) := by decide +kernel
theorem dX0_takeUp_30 : decode cX0_takeUp 30 = .ok (.getfield 27, 3) := by decide +kernel
theorem dX0_takeUp_33 : decode cX0_takeUp 33 = .ok (.iload_n 2, 1) := by decide +kernel
theorem dX0_takeUp_34 : decode cX0_takeUp 34 = .ok (.invokestatic 67, 3) := by decide +kernel
theorem dX0_takeUp_37 : decode cX0_takeUp 37 = .ok (.aload_n 0, 1) := by decide +kernel
theorem dX0_takeUp_38 : decode cX0_takeUp 38 = .ok (.getfield 30, 3) := by decide +kernel
theorem dX0_takeUp_41 : decode cX0_takeUp 41 = .ok (.iload_n 2, 1) := by decide +kernel
theorem dX0_takeUp_42 : decode cX0_takeUp 42 = .ok (.invokestatic 67, 3) := by decide +kernel
theorem dX0_takeUp_45 : decode cX0_takeUp 45 = .ok (.invokestatic 91, 3) := by decide +kernel
theorem dX0_takeUp_48 : decode cX0_takeUp 48 = .ok (.aload_n 0, 1) := by decide +kernel
theorem dX0_takeUp_49 : decode cX0_takeUp 49 = .ok (.getfield 18, 3) := by decide +kernel
theorem dX0_takeUp_52 : decode cX0_takeUp 52 = .ok (.iload_n 1, 1) := by decide +kernel
theorem dX0_takeUp_53 : decode cX0_takeUp 53 = .ok (.aload_n 0, 1) := by decide +kernel
theorem dX0_takeUp_54 : decode cX0_takeUp 54 = .ok (.getfield 18, 3) := by decide +kernel
theorem dX0_takeUp_57 : decode cX0_takeUp 57 = .ok (.iload_n 1, 1) := by decide +kernel
theorem dX0_takeUp_58 : decode cX0_takeUp 58 = .ok (.invokestatic 67, 3) := by decide +kernel
theorem dX0_takeUp_61 : decode cX0_takeUp 61 = .ok (.iconst 1, 1) := by decide +kernel
theorem dX0_takeUp_62 : decode cX0_takeUp 62 = .ok (.isub, 1) := by decide +kernel
theorem dX0_takeUp_63 : decode cX0_takeUp 63 = .ok (.invokestatic 91, 3) := by decide +kernel
theorem dX0_takeUp_66 : decode cX0_takeUp 66 = .ok (.aload_n 0, 1) := by decide +kernel
theorem dX0_takeUp_67 : decode cX0_takeUp 67 = .ok (.getfield 9, 3) := by decide +kernel
theorem dX0_takeUp_70 : decode cX0_takeUp 70 = .ok (.iload_n 1, 1) := by decide +kernel
theorem dX0_takeUp_71 : decode cX0_takeUp 71 = .ok (.aload_n 0, 1) := by decide +kernel
theorem dX0_takeUp_72 : decode cX0_takeUp 72 = .ok (.getfield 9, 3) := by decide +kernel
theorem dX0_takeUp_75 : decode cX0_takeUp 75 = .ok (.iload_n 1, 1) := by decide +kernel
theorem dX0_takeUp_76 : decode cX0_takeUp 76 = .ok (.invokestatic 67, 3) := by decide +kernel
theorem dX0_takeUp_79 : decode cX0_takeUp 79 = .ok (.getstatic 95, 3) := by decide +kernel
theorem dX0_takeUp_82 : decode cX0_takeUp 82 = .ok (.iload_n 3, 1) := by decide +kernel
theorem dX0_takeUp_83 : decode cX0_takeUp 83 = .ok (.invokestatic 67, 3) := by decide +kernel
theorem dX0_takeUp_86 : decode cX0_takeUp 86 = .ok (.isub, 1) := by decide +kernel
theorem dX0_takeUp_87 : decode cX0_takeUp 87 = .ok (.invokestatic 91, 3) := by decide +kernel
theorem dX0_takeUp_90 : decode cX0_takeUp 90 = .ok (.aload_n 0, 1) := by decide +kernel
theorem dX0_takeUp_91 : decode cX0_takeUp 91 = .ok (.getfield 15, 3) := by decide +kernel
theorem dX0_takeUp_94 : decode cX0_takeUp 94 = .ok (.iload_n 1, 1) := by decide +kernel
theorem dX0_takeUp_95 : decode cX0_takeUp 95 = .ok (.aload_n 0, 1) := by decide +kernel
theorem dX0_takeUp_96 : decode cX0_takeUp 96 = .ok (.getfield 15, 3) := by decide +kernel
theorem dX0_takeUp_99 : decode cX0_takeUp 99 = .ok (.iload_n 1, 1) := by decide +kernel
theorem dX0_takeUp_100 : decode cX0_takeUp 100 = .ok (.invokestatic 67, 3) := by decide +kernel
theorem dX0_takeUp_103 : decode cX0_takeUp 103 = .ok (.getstatic 98, 3) := by decide +kernel
theorem dX0_takeUp_106 : decode cX0_takeUp 106 = .ok (.iload_n 3, 1) := by decide +kernel
theorem dX0_takeUp_107 : decode cX0_takeUp 107 = .ok (.invokestatic 67, 3) := by decide +kernel
theorem dX0_takeUp_110 : decode cX0_takeUp 110 = .ok (.isub, 1) := by decide +kernel
theorem dX0_takeUp_111 : decode cX0_takeUp 111 = .ok (.invokestatic 91, 3) := by decide +kernel
theorem dX0_takeUp_114 : decode cX0_takeUp 114 = .ok (.iconst 1, 1) := by decide +kernel
theorem dX0_takeUp_115 : decode cX0_takeUp 115 = .ok (.ireturn, 1) := by decide +kernel
theorem dX0_takeUpAll_0 : decode cX0_takeUpAll 0 = .ok (.iconst 0, 1) := by decide +kernel
theorem dX0_takeUpAll_1 : decode cX0_takeUpAll 1 = .ok (.istore_n 2, 1) := by decide +kernel
theorem dX0_takeUpAll_2 : decode cX0_takeUpAll 2 = .ok (.iconst 0, 1) := by decide +kernel
theorem dX0_takeUpAll_3 : decode cX0_takeUpAll 3 = .ok (.istore_n 3, 1) := by decide +kernel
theorem dX0_takeUpAll_4 : decode cX0_takeUpAll 4 = .ok (.iload_n 3, 1) := by decide +kernel
theorem dX0_takeUpAll_5 : decode cX0_takeUpAll 5 = .ok (.bipush 60, 2) := by decide +kernel
theorem dX0_takeUpAll_7 : decode cX0_takeUpAll 7 = .ok (.if_icmp .ge 20, 3) := by decide +kernel
theorem dX0_takeUpAll_10 : decode cX0_takeUpAll 10 = .ok (.aload_n 0, 1) := by decide +kernel
theorem dX0_takeUpAll_11 : decode cX0_takeUpAll 11 = .ok (.iload_n 1, 1) := by decide +kernel
theorem dX0_takeUpAll_12 : decode cX0_takeUpAll 12 = .ok (.invokevirtual 109, 3) := by decide +kernel
theorem dX0_takeUpAll_15 : decode cX0_takeUpAll 15 = .ok (.ifCond .eq 12, 3) := by decide +kernel
theorem dX0_takeUpAll_18 : decode cX0_takeUpAll 18 = .ok (.iinc 2 1, 3) := by decide +kernel
theorem dX0_takeUpAll_21 : decode cX0_takeUpAll 21 = .ok (.iinc 3 1, 3) := by decide +kernel
theorem dX0_takeUpAll_24 : decode cX0_takeUpAll 24 = .ok (.goto (-20), 3) := by decide +kernel
theorem dX0_takeUpAll_27 : decode cX0_takeUpAll 27 = .ok (.iload_n 2, 1) := by decide +kernel
theorem dX0_takeUpAll_28 : decode cX0_takeUpAll 28 = .ok (.ireturn, 1) := by decide +kernel
theorem dX0_lose_0 : decode cX0_lose 0 = .ok (.aload_n 0, 1) := by decide +kernel
theorem dX0_lose_1 : decode cX0_lose 1 = .ok (.getfield 18, 3) := by decide +kernel
theorem dX0_lose_4 : decode cX0_lose 4 = .ok (.iload_n 1, 1) := by decide +kernel
theorem dX0_lose_5 : decode cX0_lose 5 = .ok (.invokestatic 67, 3) := by decide +kernel
theorem dX0_lose_8 : decode cX0_lose 8 = .ok (.istore_n 2, 1) := by decide +kernel
theorem dX0_lose_9 : decode cX0_lose 9 = .ok (.iload_n 2, 1) := by decide +kernel
theorem dX0_lose_10 : decode cX0_lose 10 = .ok (.iconst 1, 1) := by decide +kernel
theorem dX0_lose_11 : decode cX0_lose 11 = .ok (.isub, 1) := by decide +kernel
theorem dX0_lose_12 : decode cX0_lose 12 = .ok (.istore_n 3, 1) := by decide +kernel
theorem dX0_lose_13 : decode cX0_lose 13 = .ok (.iload_n 3, 1) := by decide +kernel
theorem dX0_lose_14 : decode cX0_lose 14 = .ok (.ifCond .lt 18, 3) := by decide +kernel
theorem dX0_lose_17 : decode cX0_lose 17 = .ok (.aload_n 0, 1) := by decide +kernel
theorem dX0_lose_18 : decode cX0_lose 18 = .ok (.iload_n 1, 1) := by decide +kernel
theorem dX0_lose_19 : decode cX0_lose 19 = .ok (.iload_n 3, 1) := by decide +kernel
theorem dX0_lose_20 : decode cX0_lose 20 = .ok (.invokestatic 83, 3) := by decide +kernel
theorem dX0_lose_23 : decode cX0_lose 23 = .ok (.invokevirtual 112, 3) := by decide +kernel
theorem dX0_lose_26 : decode cX0_lose 26 = .ok (.iinc 3 (-1), 3) := by decide +kernel
theorem dX0_lose_29 : decode cX0_lose 29 = .ok (.goto (-16), 3) := by decide +kernel
theorem dX0_lose_32 : decode cX0_lose 32 = .ok (.aload_n 0, 1) := by decide +kernel
theorem dX0_lose_33 : decode cX0_lose 33 = .ok (.getfield 18, 3) := by decide +kernel
theorem dX0_lose_36 : decode cX0_lose 36 = .ok (.iload_n 1, 1) := by decide +kernel
theorem dX0_lose_37 : decode cX0_lose 37 = .ok (.iconst 0, 1) := by decide +kernel
theorem dX0_lose_38 : decode cX0_lose 38 = .ok (.invokestatic 91, 3) := by decide +kernel
theorem dX0_lose_41 : decode cX0_lose 41 = .ok (.aload_n 0, 1) := by decide +kernel
theorem dX0_lose_42 : decode cX0_lose 42 = .ok (.getfield 21, 3) := by decide +kernel
theorem dX0_lose_45 : decode cX0_lose 45 = .ok (.iload_n 1, 1) := by decide +kernel
theorem dX0_lose_46 : decode cX0_lose 46 = .ok (.iconst 1, 1) := by decide +kernel
theorem dX0_lose_47 : decode cX0_lose 47 = .ok (.invokestatic 91, 3) := by decide +kernel
theorem dX0_lose_50 : decode cX0_lose 50 = .ok (.iload_n 2, 1) := by decide +kernel
theorem dX0_lose_51 : decode cX0_lose 51 = .ok (.ireturn, 1) := by decide +kernel
theorem dX0_pullOut_0 : decode cX0_pullOut 0 = .ok (.aload_n 0, 1) := by decide +kernel
theorem dX0_pullOut_1 : decode cX0_pullOut 1 = .ok (.getfield 27, 3) := by decide +kernel
theorem dX0_pullOut_4 : decode cX0_pullOut 4 = .ok (.iload_n 1, 1) := by decide +kernel
theorem dX0_pullOut_5 : decode cX0_pullOut 5 = .ok (.invokestatic 67, 3) := by decide +kernel
theorem dX0_pullOut_8 : decode cX0_pullOut 8 = .ok (.istore_n 2, 1) := by decide +kernel
theorem dX0_pullOut_9 : decode cX0_pullOut 9 = .ok (.aload_n 0, 1) := by decide +kernel
theorem dX0_pullOut_10 : decode cX0_pullOut 10 = .ok (.getfield 36, 3) := by decide +kernel
theorem dX0_pullOut_13 : decode cX0_pullOut 13 = .ok (.iload_n 2, 1) := by decide +kernel
theorem dX0_pullOut_14 : decode cX0_pullOut 14 = .ok (.invokestatic 67, 3) := by decide +kernel
theorem dX0_pullOut_17 : decode cX0_pullOut 17 = .ok (.istore_n 3, 1) := by decide +kernel
theorem dX0_pullOut_18 : decode cX0_pullOut 18 = .ok (.iload_n 3, 1) := by decide +kernel
theorem dX0_pullOut_19 : decode cX0_pullOut 19 = .ok (.iload_n 1, 1) := by decide +kernel
theorem dX0_pullOut_20 : decode cX0_pullOut 20 = .ok (.if_icmp .ne 20, 3) := by decide +kernel
theorem dX0_pullOut_23 : decode cX0_pullOut 23 = .ok (.aload_n 0, 1) := by decide +kernel
theorem dX0_pullOut_24 : decode cX0_pullOut 24 = .ok (.getfield 36, 3) := by decide +kernel
theorem dX0_pullOut_27 : decode cX0_pullOut 27 = .ok (.iload_n 2, 1) := by decide +kernel
theorem dX0_pullOut_28 : decode cX0_pullOut 28 = .ok (.aload_n 0, 1) := by decide +kernel
theorem dX0_pullOut_29 : decode cX0_pullOut 29 = .ok (.getfield 30, 3) := by decide +kernel
theorem dX0_pullOut_32 : decode cX0_pullOut 32 = .ok (.iload_n 1, 1) := by decide +kernel
theorem dX0_pullOut_33 : decode cX0_pullOut 33 = .ok (.invokestatic 67, 3) := by decide +kernel
theorem dX0_pullOut_36 : decode cX0_pullOut 36 = .ok (.invokestatic 91, 3) := by decide +kernel
theorem dX0_pullOut_39 : decode cX0_pullOut 39 = .ok (.return_, 1) := by decide +kernel
theorem dX0_pullOut_40 : decode cX0_pullOut 40 = .ok (.iconst 0, 1) := by decide +kernel
theorem dX0_pullOut_41 : decode cX0_pullOut 41 = .ok (.istore 4, 2) := by decide +kernel
theorem dX0_pullOut_43 : decode cX0_pullOut 43 = .ok (.iload 4, 2) := by decide +kernel
theorem dX0_pullOut_45 : decode cX0_pullOut 45 = .ok (.sipush 420, 3) := by decide +kernel
theorem dX0_pullOut_48 : decode cX0_pullOut 48 = .ok (.if_icmp .ge 34, 3) := by decide +kernel
theorem dX0_pullOut_51 : decode cX0_pullOut 51 = .ok (.iload_n 3, 1) := by decide +kernel
theorem dX0_pullOut_52 : decode cX0_pullOut 52 = .ok (.ifCond .eq 30, 3) := by decide +kernel
theorem dX0_pullOut_55 : decode cX0_pullOut 55 = .ok (.aload_n 0, 1) := by decide +kernel
theorem dX0_pullOut_56 : decode cX0_pullOut 56 = .ok (.getfield 30, 3) := by decide +kernel
theorem dX0_pullOut_59 : decode cX0_pullOut 59 = .ok (.iload_n 3, 1) := by decide +kernel
theorem dX0_pullOut_60 : decode cX0_pullOut 60 = .ok (.invokestatic 67, 3) := by decide +kernel
theorem dX0_pullOut_63 : decode cX0_pullOut 63 = .ok (.iload_n 1, 1) := by decide +kernel
theorem dX0_pullOut_64 : decode cX0_pullOut 64 = .ok (.if_icmp .eq 18, 3) := by decide +kernel
theorem dX0_pullOut_67 : decode cX0_pullOut 67 = .ok (.aload_n 0, 1) := by decide +kernel
theorem dX0_pullOut_68 : decode cX0_pullOut 68 = .ok (.getfield 30, 3) := by decide +kernel
theorem dX0_pullOut_71 : decode cX0_pullOut 71 = .ok (.iload_n 3, 1) := by decide +kernel
theorem dX0_pullOut_72 : decode cX0_pullOut 72 = .ok (.invokestatic 67, 3) := by decide +kernel
theorem dX0_pullOut_75 : decode cX0_pullOut 75 = .ok (.istore_n 3, 1) := by decide +kernel
theorem dX0_pullOut_76 : decode cX0_pullOut 76 = .ok (.iinc 4 1, 3) := by decide +kernel
theorem dX0_pullOut_79 : decode cX0_pullOut 79 = .ok (.goto (-36), 3) := by decide +kernel
theorem dX0_pullOut_82 : decode cX0_pullOut 82 = .ok (.aload_n 0, 1) := by decide +kernel
theorem dX0_pullOut_83 : decode cX0_pullOut 83 = .ok (.getfield 30, 3) := by decide +kernel
theorem dX0_pullOut_86 : decode cX0_pullOut 86 = .ok (.iload_n 3, 1) := by decide +kernel
theorem dX0_pullOut_87 : decode cX0_pullOut 87 = .ok (.aload_n 0, 1) := by decide +kernel
theorem dX0_pullOut_88 : decode cX0_pullOut 88 = .ok (.getfield 30, 3) := by decide +kernel
theorem dX0_pullOut_91 : decode cX0_pullOut 91 = .ok (.iload_n 1, 1) := by decide +kernel
theorem dX0_pullOut_92 : decode cX0_pullOut 92 = .ok (.invokestatic 67, 3) := by decide +kernel
theorem dX0_pullOut_95 : decode cX0_pullOut 95 = .ok (.invokestatic 91, 3) := by decide +kernel
theorem dX0_pullOut_98 : decode cX0_pullOut 98 = .ok (.return_, 1) := by decide +kernel
theorem dX0_wants_0 : decode cX0_wants 0 = .ok (.aload_n 0, 1) := by decide +kernel
theorem dX0_wants_1 : decode cX0_wants 1 = .ok (.getfield 21, 3) := by decide +kernel
theorem dX0_wants_4 : decode cX0_wants 4 = .ok (.iload_n 2, 1) := by decide +kernel
theorem dX0_wants_5 : decode cX0_wants 5 = .ok (.invokestatic 67, 3) := by decide +kernel
theorem dX0_wants_8 : decode cX0_wants 8 = .ok (.ifCond .eq 5, 3) := by decide +kernel
theorem dX0_wants_11 : decode cX0_wants 11 = .ok (.iconst 0, 1) := by decide +kernel
theorem dX0_wants_12 : decode cX0_wants 12 = .ok (.ireturn, 1) := by decide +kernel
theorem dX0_wants_13 : decode cX0_wants 13 = .ok (.aload_n 1, 1) := by decide +kernel
theorem dX0_wants_14 : decode cX0_wants 14 = .ok (.iload_n 2, 1) := by decide +kernel
theorem dX0_wants_15 : decode cX0_wants 15 = .ok (.aload_n 0, 1) := by decide +kernel
theorem dX0_wants_16 : decode cX0_wants 16 = .ok (.getfield 9, 3) := by decide +kernel
theorem dX0_wants_19 : decode cX0_wants 19 = .ok (.iload_n 2, 1) := by decide +kernel
theorem dX0_wants_20 : decode cX0_wants 20 = .ok (.invokestatic 67, 3) := by decide +kernel
theorem dX0_wants_23 : decode cX0_wants 23 = .ok (.aload_n 0, 1) := by decide +kernel
theorem dX0_wants_24 : decode cX0_wants 24 = .ok (.getfield 15, 3) := by decide +kernel
theorem dX0_wants_27 : decode cX0_wants 27 = .ok (.iload_n 2, 1) := by decide +kernel
theorem dX0_wants_28 : decode cX0_wants 28 = .ok (.invokestatic 67, 3) := by decide +kernel
theorem dX0_wants_31 : decode cX0_wants 31 = .ok (.iload_n 3, 1) := by decide +kernel
theorem dX0_wants_32 : decode cX0_wants 32 = .ok (.aload_n 0, 1) := by decide +kernel
theorem dX0_wants_33 : decode cX0_wants 33 = .ok (.aload_n 1, 1) := by decide +kernel
theorem dX0_wants_34 : decode cX0_wants 34 = .ok (.iload_n 2, 1) := by decide +kernel
theorem dX0_wants_35 : decode cX0_wants 35 = .ok (.invokevirtual 71, 3) := by decide +kernel
theorem dX0_wants_38 : decode cX0_wants 38 = .ok (.invokevirtual 116, 3) := by decide +kernel
theorem dX0_wants_41 : decode cX0_wants 41 = .ok (.ireturn, 1) := by decide +kernel
theorem dX0_act_0 : decode cX0_act 0 = .ok (.aload_n 0, 1) := by decide +kernel
theorem dX0_act_1 : decode cX0_act 1 = .ok (.aload_n 1, 1) := by decide +kernel
theorem dX0_act_2 : decode cX0_act 2 = .ok (.iload_n 2, 1) := by decide +kernel
theorem dX0_act_3 : decode cX0_act 3 = .ok (.iload_n 3, 1) := by decide +kernel
theorem dX0_act_4 : decode cX0_act 4 = .ok (.invokevirtual 120, 3) := by decide +kernel
theorem dX0_act_7 : decode cX0_act 7 = .ok (.istore 4, 2) := by decide +kernel
theorem dX0_act_9 : decode cX0_act 9 = .ok (.iload 4, 2) := by decide +kernel
theorem dX0_act_11 : decode cX0_act 11 = .ok (.iconst 5, 1) := by decide +kernel
theorem dX0_act_12 : decode cX0_act 12 = .ok (.if_icmp .ne 12, 3) := by decide +kernel
theorem dX0_act_15 : decode cX0_act 15 = .ok (.aload_n 0, 1) := by decide +kernel
theorem dX0_act_16 : decode cX0_act 16 = .ok (.iload_n 2, 1) := by decide +kernel
theorem dX0_act_17 : decode cX0_act 17 = .ok (.invokevirtual 109, 3) := by decide +kernel
theorem dX0_act_20 : decode cX0_act 20 = .ok (.pop, 1) := by decide +kernel
theorem dX0_act_21 : decode cX0_act 21 = .ok (.goto 16, 3) := by decide +kernel
theorem dX0_act_24 : decode cX0_act 24 = .ok (.iload 4, 2) := by decide +kernel
theorem dX0_act_26 : decode cX0_act 26 = .ok (.ifCond .le 11, 3) := by decide +kernel
theorem dX0_act_29 : decode cX0_act 29 = .ok (.aload_n 0, 1) := by decide +kernel
theorem dX0_act_30 : decode cX0_act 30 = .ok (.aload_n 1, 1) := by decide +kernel
theorem dX0_act_31 : decode cX0_act 31 = .ok (.iload_n 2, 1) := by decide +kernel
theorem dX0_act_32 : decode cX0_act 32 = .ok (.iload 4, 2) := by decide +kernel
theorem dX0_act_34 : decode cX0_act 34 = .ok (.invokevirtual 124, 3) := by decide +kernel
theorem dX0_act_37 : decode cX0_act 37 = .ok (.return_, 1) := by decide +kernel
theorem dX0_goBy_0 : decode cX0_goBy 0 = .ok (.iconst 0, 1) := by decide +kernel
theorem dX0_goBy_1 : decode cX0_goBy 1 = .ok (.istore_n 2, 1) := by decide +kernel
theorem dX0_goBy_2 : decode cX0_goBy 2 = .ok (.iload_n 2, 1) := by decide +kernel
theorem dX0_goBy_3 : decode cX0_goBy 3 = .ok (.aload_n 1, 1) := by decide +kernel
theorem dX0_goBy_4 : decode cX0_goBy 4 = .ok (.getfield 128, 3) := by decide +kernel
theorem dX0_goBy_7 : decode cX0_goBy 7 = .ok (.if_icmp .ge 19, 3) := by decide +kernel
theorem dX0_goBy_10 : decode cX0_goBy 10 = .ok (.aload_n 0, 1) := by decide +kernel
theorem dX0_goBy_11 : decode cX0_goBy 11 = .ok (.aload_n 1, 1) := by decide +kernel
theorem dX0_goBy_12 : decode cX0_goBy 12 = .ok (.iload_n 2, 1) := by decide +kernel
theorem dX0_goBy_13 : decode cX0_goBy 13 = .ok (.aload_n 0, 1) := by decide +kernel
theorem dX0_goBy_14 : decode cX0_goBy 14 = .ok (.getfield 39, 3) := by decide +kernel
theorem dX0_goBy_17 : decode cX0_goBy 17 = .ok (.invokevirtual 131, 3) := by decide +kernel
theorem dX0_goBy_20 : decode cX0_goBy 20 = .ok (.iinc 2 1, 3) := by decide +kernel
theorem dX0_goBy_23 : decode cX0_goBy 23 = .ok (.goto (-21), 3) := by decide +kernel
theorem dX0_goBy_26 : decode cX0_goBy 26 = .ok (.aload_n 0, 1) := by decide +kernel
theorem dX0_goBy_27 : decode cX0_goBy 27 = .ok (.dup, 1) := by decide +kernel
theorem dX0_goBy_28 : decode cX0_goBy 28 = .ok (.getfield 39, 3) := by decide +kernel
theorem dX0_goBy_31 : decode cX0_goBy 31 = .ok (.iconst 1, 1) := by decide +kernel
theorem dX0_goBy_32 : decode cX0_goBy 32 = .ok (.iadd, 1) := by decide +kernel
theorem dX0_goBy_33 : decode cX0_goBy 33 = .ok (.putfield 39, 3) := by decide +kernel
theorem dX0_goBy_36 : decode cX0_goBy 36 = .ok (.return_, 1) := by decide +kernel
theorem dX0_countUnder_0 : decode cX0_countUnder 0 = .ok (.iconst 0, 1) := by decide +kernel
theorem dX0_countUnder_1 : decode cX0_countUnder 1 = .ok (.istore_n 2, 1) := by decide +kernel
theorem dX0_countUnder_2 : decode cX0_countUnder 2 = .ok (.aload_n 0, 1) := by decide +kernel
theorem dX0_countUnder_3 : decode cX0_countUnder 3 = .ok (.getfield 30, 3) := by decide +kernel
theorem dX0_countUnder_6 : decode cX0_countUnder 6 = .ok (.iload_n 1, 1) := by decide +kernel
theorem dX0_countUnder_7 : decode cX0_countUnder 7 = .ok (.invokestatic 67, 3) := by decide +kernel
theorem dX0_countUnder_10 : decode cX0_countUnder 10 = .ok (.istore_n 3, 1) := by decide +kernel
theorem dX0_countUnder_11 : decode cX0_countUnder 11 = .ok (.iconst 0, 1) := by decide +kernel
theorem dX0_countUnder_12 : decode cX0_countUnder 12 = .ok (.istore 4, 2) := by decide +kernel
theorem dX0_countUnder_14 : decode cX0_countUnder 14 = .ok (.iload 4, 2) := by decide +kernel
theorem dX0_countUnder_16 : decode cX0_countUnder 16 = .ok (.sipush 420, 3) := by decide +kernel
theorem dX0_countUnder_19 : decode cX0_countUnder 19 = .ok (.if_icmp .ge 25, 3) := by decide +kernel
theorem dX0_countUnder_22 : decode cX0_countUnder 22 = .ok (.iload_n 3, 1) := by decide +kernel
theorem dX0_countUnder_23 : decode cX0_countUnder 23 = .ok (.ifCond .eq 21, 3) := by decide +kernel
theorem dX0_countUnder_26 : decode cX0_countUnder 26 = .ok (.iinc 2 1, 3) := by decide +kernel
theorem dX0_countUnder_29 : decode cX0_countUnder 29 = .ok (.aload_n 0, 1) := by decide +kernel
theorem dX0_countUnder_30 : decode cX0_countUnder 30 = .ok (.getfield 30, 3) := by decide +kernel
theorem dX0_countUnder_33 : decode cX0_countUnder 33 = .ok (.iload_n 3, 1) := by decide +kernel
theorem dX0_countUnder_34 : decode cX0_countUnder 34 = .ok (.invokestatic 67, 3) := by decide +kernel
theorem dX0_countUnder_37 : decode cX0_countUnder 37 = .ok (.istore_n 3, 1) := by decide +kernel
theorem dX0_countUnder_38 : decode cX0_countUnder 38 = .ok (.iinc 4 1, 3) := by decide +kernel
theorem dX0_countUnder_41 : decode cX0_countUnder 41 = .ok (.goto (-27), 3) := by decide +kernel
theorem dX0_countUnder_44 : decode cX0_countUnder 44 = .ok (.iload_n 2, 1) := by decide +kernel
theorem dX0_countUnder_45 : decode cX0_countUnder 45 = .ok (.ireturn, 1) := by decide +kernel
theorem dX0_countOn_0 : decode cX0_countOn 0 = .ok (.aload_n 0, 1) := by decide +kernel
theorem dX0_countOn_1 : decode cX0_countOn 1 = .ok (.getfield 36, 3) := by decide +kernel
theorem dX0_countOn_4 : decode cX0_countOn 4 = .ok (.iload_n 1, 1) := by decide +kernel
theorem dX0_countOn_5 : decode cX0_countOn 5 = .ok (.invokestatic 67, 3) := by decide +kernel
theorem dX0_countOn_8 : decode cX0_countOn 8 = .ok (.istore_n 2, 1) := by decide +kernel
theorem dX0_countOn_9 : decode cX0_countOn 9 = .ok (.iload_n 2, 1) := by decide +kernel
theorem dX0_countOn_10 : decode cX0_countOn 10 = .ok (.ifCond .ne 7, 3) := by decide +kernel
theorem dX0_countOn_13 : decode cX0_countOn 13 = .ok (.iconst 0, 1) := by decide +kernel
theorem dX0_countOn_14 : decode cX0_countOn 14 = .ok (.goto 10, 3) := by decide +kernel
theorem dX0_countOn_17 : decode cX0_countOn 17 = .ok (.aload_n 0, 1) := by decide +kernel
theorem dX0_countOn_18 : decode cX0_countOn 18 = .ok (.iload_n 2, 1) := by decide +kernel
theorem dX0_countOn_19 : decode cX0_countOn 19 = .ok (.invokevirtual 134, 3) := by decide +kernel
theorem dX0_countOn_22 : decode cX0_countOn 22 = .ok (.iconst 1, 1) := by decide +kernel
theorem dX0_countOn_23 : decode cX0_countOn 23 = .ok (.iadd, 1) := by decide +kernel
theorem dX0_countOn_24 : decode cX0_countOn 24 = .ok (.ireturn, 1) := by decide +kernel
theorem dX0_fromTop_0 : decode cX0_fromTop 0 = .ok (.aload_n 0, 1) := by decide +kernel
theorem dX0_fromTop_1 : decode cX0_fromTop 1 = .ok (.getfield 36, 3) := by decide +kernel
theorem dX0_fromTop_4 : decode cX0_fromTop 4 = .ok (.iload_n 1, 1) := by decide +kernel
theorem dX0_fromTop_5 : decode cX0_fromTop 5 = .ok (.invokestatic 67, 3) := by decide +kernel
theorem dX0_fromTop_8 : decode cX0_fromTop 8 = .ok (.istore_n 3, 1) := by decide +kernel
theorem dX0_fromTop_9 : decode cX0_fromTop 9 = .ok (.iconst 0, 1) := by decide +kernel
theorem dX0_fromTop_10 : decode cX0_fromTop 10 = .ok (.istore 4, 2) := by decide +kernel
theorem dX0_fromTop_12 : decode cX0_fromTop 12 = .ok (.iload 4, 2) := by decide +kernel
theorem dX0_fromTop_14 : decode cX0_fromTop 14 = .ok (.iload_n 2, 1) := by decide +kernel
theorem dX0_fromTop_15 : decode cX0_fromTop 15 = .ok (.if_icmp .ge 26, 3) := by decide +kernel
theorem dX0_fromTop_18 : decode cX0_fromTop 18 = .ok (.iload 4, 2) := by decide +kernel
theorem dX0_fromTop_20 : decode cX0_fromTop 20 = .ok (.sipush 420, 3) := by decide +kernel
theorem dX0_fromTop_23 : decode cX0_fromTop 23 = .ok (.if_icmp .ge 18, 3) := by decide +kernel
theorem dX0_fromTop_26 : decode cX0_fromTop 26 = .ok (.aload_n 0, 1) := by decide +kernel
theorem dX0_fromTop_27 : decode cX0_fromTop 27 = .ok (.getfield 30, 3) := by decide +kernel
theorem dX0_fromTop_30 : decode cX0_fromTop 30 = .ok (.iload_n 3, 1) := by decide +kernel
theorem dX0_fromTop_31 : decode cX0_fromTop 31 = .ok (.invokestatic 67, 3) := by decide +kernel
theorem dX0_fromTop_34 : decode cX0_fromTop 34 = .ok (.istore_n 3, 1) := by decide +kernel
theorem dX0_fromTop_35 : decode cX0_fromTop 35 = .ok (.iinc 4 1, 3) := by decide +kernel
theorem dX0_fromTop_38 : decode cX0_fromTop 38 = .ok (.goto (-26), 3) := by decide +kernel
theorem dX0_fromTop_41 : decode cX0_fromTop 41 = .ok (.iload_n 3, 1) := by decide +kernel
theorem dX0_fromTop_42 : decode cX0_fromTop 42 = .ok (.ireturn, 1) := by decide +kernel
theorem dX0_countTops_0 : decode cX0_countTops 0 = .ok (.iconst 0, 1) := by decide +kernel
theorem dX0_countTops_1 : decode cX0_countTops 1 = .ok (.istore_n 2, 1) := by decide +kernel
theorem dX0_countTops_2 : decode cX0_countTops 2 = .ok (.iconst 0, 1) := by decide +kernel
theorem dX0_countTops_3 : decode cX0_countTops 3 = .ok (.istore_n 3, 1) := by decide +kernel
theorem dX0_countTops_4 : decode cX0_countTops 4 = .ok (.iload_n 3, 1) := by decide +kernel
theorem dX0_countTops_5 : decode cX0_countTops 5 = .ok (.sipush 288, 3) := by decide +kernel
theorem dX0_countTops_8 : decode cX0_countTops 8 = .ok (.if_icmp .ge 36, 3) := by decide +kernel
theorem dX0_countTops_11 : decode cX0_countTops 11 = .ok (.aload_n 0, 1) := by decide +kernel
theorem dX0_countTops_12 : decode cX0_countTops 12 = .ok (.getfield 36, 3) := by decide +kernel
theorem dX0_countTops_15 : decode cX0_countTops 15 = .ok (.iload_n 3, 1) := by decide +kernel
theorem dX0_countTops_16 : decode cX0_countTops 16 = .ok (.invokestatic 67, 3) := by decide +kernel
theorem dX0_countTops_19 : decode cX0_countTops 19 = .ok (.istore 4, 2) := by decide +kernel
theorem dX0_countTops_21 : decode cX0_countTops 21 = .ok (.iload 4, 2) := by decide +kernel
theorem dX0_countTops_23 : decode cX0_countTops 23 = .ok (.ifCond .eq 15, 3) := by decide +kernel
theorem dX0_countTops_26 : decode cX0_countTops 26 = .ok (.iload 4, 2) := by decide +kernel
theorem dX0_countTops_28 : decode cX0_countTops 28 = .ok (.invokestatic 137, 3) := by decide +kernel
theorem dX0_countTops_31 : decode cX0_countTops 31 = .ok (.iload_n 1, 1) := by decide +kernel
theorem dX0_countTops_32 : decode cX0_countTops 32 = .ok (.if_icmp .ne 6, 3) := by decide +kernel
theorem dX0_countTops_35 : decode cX0_countTops 35 = .ok (.iinc 2 1, 3) := by decide +kernel
theorem dX0_countTops_38 : decode cX0_countTops 38 = .ok (.iinc 3 1, 3) := by decide +kernel
theorem dX0_countTops_41 : decode cX0_countTops 41 = .ok (.goto (-37), 3) := by decide +kernel
theorem dX0_countTops_44 : decode cX0_countTops 44 = .ok (.iload_n 2, 1) := by decide +kernel
theorem dX0_countTops_45 : decode cX0_countTops 45 = .ok (.ireturn, 1) := by decide +kernel
theorem dX0_countOver_0 : decode cX0_countOver 0 = .ok (.iconst 0, 1) := by decide +kernel
theorem dX0_countOver_1 : decode cX0_countOver 1 = .ok (.istore_n 3, 1) := by decide +kernel
theorem dX0_countOver_2 : decode cX0_countOver 2 = .ok (.iconst 0, 1) := by decide +kernel
theorem dX0_countOver_3 : decode cX0_countOver 3 = .ok (.istore 4, 2) := by decide +kernel
theorem dX0_countOver_5 : decode cX0_countOver 5 = .ok (.iload 4, 2) := by decide +kernel
theorem dX0_countOver_7 : decode cX0_countOver 7 = .ok (.aload_n 0, 1) := by decide +kernel
theorem dX0_countOver_8 : decode cX0_countOver 8 = .ok (.getfield 18, 3) := by decide +kernel
theorem dX0_countOver_11 : decode cX0_countOver 11 = .ok (.iload_n 1, 1) := by decide +kernel
theorem dX0_countOver_12 : decode cX0_countOver 12 = .ok (.invokestatic 67, 3) := by decide +kernel
theorem dX0_countOver_15 : decode cX0_countOver 15 = .ok (.if_icmp .ge 74, 3) := by decide +kernel
theorem dX0_countOver_18 : decode cX0_countOver 18 = .ok (.aload_n 0, 1) := by decide +kernel
theorem dX0_countOver_19 : decode cX0_countOver 19 = .ok (.getfield 30, 3) := by decide +kernel
theorem dX0_countOver_22 : decode cX0_countOver 22 = .ok (.iload_n 1, 1) := by decide +kernel
theorem dX0_countOver_23 : decode cX0_countOver 23 = .ok (.iload 4, 2) := by decide +kernel
theorem dX0_countOver_25 : decode cX0_countOver 25 = .ok (.invokestatic 83, 3) := by decide +kernel
theorem dX0_countOver_28 : decode cX0_countOver 28 = .ok (.invokestatic 67, 3) := by decide +kernel
theorem dX0_countOver_31 : decode cX0_countOver 31 = .ok (.istore 5, 2) := by decide +kernel
theorem dX0_countOver_33 : decode cX0_countOver 33 = .ok (.iconst 0, 1) := by decide +kernel
theorem dX0_countOver_34 : decode cX0_countOver 34 = .ok (.istore 6, 2) := by decide +kernel
theorem dX0_countOver_36 : decode cX0_countOver 36 = .ok (.iload 6, 2) := by decide +kernel
theorem dX0_countOver_38 : decode cX0_countOver 38 = .ok (.sipush 420, 3) := by decide +kernel
theorem dX0_countOver_41 : decode cX0_countOver 41 = .ok (.if_icmp .ge 42, 3) := by decide +kernel
theorem dX0_countOver_44 : decode cX0_countOver 44 = .ok (.iload 5, 2) := by decide +kernel
theorem dX0_countOver_46 : decode cX0_countOver 46 = .ok (.ifCond .eq 37, 3) := by decide +kernel
theorem dX0_countOver_49 : decode cX0_countOver 49 = .ok (.iload_n 3, 1) := by decide +kernel
theorem dX0_countOver_50 : decode cX0_countOver 50 = .ok (.iload 5, 2) := by decide +kernel
theorem dX0_countOver_52 : decode cX0_countOver 52 = .ok (.invokestatic 137, 3) := by decide +kernel
theorem dX0_countOver_55 : decode cX0_countOver 55 = .ok (.iload_n 2, 1) := by decide +kernel
theorem dX0_countOver_56 : decode cX0_countOver 56 = .ok (.if_icmp .ne 7, 3) := by decide +kernel
theorem dX0_countOver_59 : decode cX0_countOver 59 = .ok (.iconst 1, 1) := by decide +kernel
theorem dX0_countOver_60 : decode cX0_countOver 60 = .ok (.goto 4, 3) := by decide +kernel
theorem dX0_countOver_63 : decode cX0_countOver 63 = .ok (.iconst 0, 1) := by decide +kernel
theorem dX0_countOver_64 : decode cX0_countOver 64 = .ok (.iadd, 1) := by decide +kernel
theorem dX0_countOver_65 : decode cX0_countOver 65 = .ok (.istore_n 3, 1) := by decide +kernel
theorem dX0_countOver_66 : decode cX0_countOver 66 = .ok (.aload_n 0, 1) := by decide +kernel
theorem dX0_countOver_67 : decode cX0_countOver 67 = .ok (.getfield 30, 3) := by decide +kernel
theorem dX0_countOver_70 : decode cX0_countOver 70 = .ok (.iload 5, 2) := by decide +kernel
theorem dX0_countOver_72 : decode cX0_countOver 72 = .ok (.invokestatic 67, 3) := by decide +kernel
theorem dX0_countOver_75 : decode cX0_countOver 75 = .ok (.istore 5, 2) := by decide +kernel
theorem dX0_countOver_77 : decode cX0_countOver 77 = .ok (.iinc 6 1, 3) := by decide +kernel
theorem dX0_countOver_80 : decode cX0_countOver 80 = .ok (.goto (-44), 3) := by decide +kernel
theorem dX0_countOver_83 : decode cX0_countOver 83 = .ok (.iinc 4 1, 3) := by decide +kernel
theorem dX0_countOver_86 : decode cX0_countOver 86 = .ok (.goto (-81), 3) := by decide +kernel
theorem dX0_countOver_89 : decode cX0_countOver 89 = .ok (.iload_n 3, 1) := by decide +kernel
theorem dX0_countOver_90 : decode cX0_countOver 90 = .ok (.ireturn, 1) := by decide +kernel
theorem dX0_countOverOthers_0 : decode cX0_countOverOthers 0 = .ok (.iconst 0, 1) := by decide +kernel
theorem dX0_countOverOthers_1 : decode cX0_countOverOthers 1 = .ok (.istore_n 2, 1) := by decide +kernel
theorem dX0_countOverOthers_2 : decode cX0_countOverOthers 2 = .ok (.iconst 0, 1) := by decide +kernel
theorem dX0_countOverOthers_3 : decode cX0_countOverOthers 3 = .ok (.istore_n 3, 1) := by decide +kernel
theorem dX0_countOverOthers_4 : decode cX0_countOverOthers 4 = .ok (.iload_n 3, 1) := by decide +kernel
theorem dX0_countOverOthers_5 : decode cX0_countOverOthers 5 = .ok (.bipush 7, 2) := by decide +kernel
theorem dX0_countOverOthers_7 : decode cX0_countOverOthers 7 = .ok (.if_icmp .ge 27, 3) := by decide +kernel
theorem dX0_countOverOthers_10 : decode cX0_countOverOthers 10 = .ok (.iload_n 2, 1) := by decide +kernel
theorem dX0_countOverOthers_11 : decode cX0_countOverOthers 11 = .ok (.iload_n 3, 1) := by decide +kernel
theorem dX0_countOverOthers_12 : decode cX0_countOverOthers 12 = .ok (.iload_n 1, 1) := by decide +kernel
theorem dX0_countOverOthers_13 : decode cX0_countOverOthers 13 = .ok (.if_icmp .ne 7, 3) := by decide +kernel
theorem dX0_countOverOthers_16 : decode cX0_countOverOthers 16 = .ok (.iconst 0, 1) := by decide +kernel
theorem dX0_countOverOthers_17 : decode cX0_countOverOthers 17 = .ok (.goto 9, 3) := by decide +kernel
theorem dX0_countOverOthers_20 : decode cX0_countOverOthers 20 = .ok (.aload_n 0, 1) := by decide +kernel
theorem dX0_countOverOthers_21 : decode cX0_countOverOthers 21 = .ok (.iload_n 1, 1) := by decide +kernel
theorem dX0_countOverOthers_22 : decode cX0_countOverOthers 22 = .ok (.iload_n 3, 1) := by decide +kernel
theorem dX0_countOverOthers_23 : decode cX0_countOverOthers 23 = .ok (.invokevirtual 140, 3) := by decide +kernel
theorem dX0_countOverOthers_26 : decode cX0_countOverOthers 26 = .ok (.iadd, 1) := by decide +kernel
theorem dX0_countOverOthers_27 : decode cX0_countOverOthers 27 = .ok (.istore_n 2, 1) := by decide +kernel
theorem dX0_countOverOthers_28 : decode cX0_countOverOthers 28 = .ok (.iinc 3 1, 3) := by decide +kernel
theorem dX0_countOverOthers_31 : decode cX0_countOverOthers 31 = .ok (.goto (-27), 3) := by decide +kernel
theorem dX0_countOverOthers_34 : decode cX0_countOverOthers 34 = .ok (.iload_n 2, 1) := by decide +kernel
theorem dX0_countOverOthers_35 : decode cX0_countOverOthers 35 = .ok (.ireturn, 1) := by decide +kernel
theorem dX0_countLying_0 : decode cX0_countLying 0 = .ok (.iconst 0, 1) := by decide +kernel
theorem dX0_countLying_1 : decode cX0_countLying 1 = .ok (.istore_n 3, 1) := by decide +kernel
theorem dX0_countLying_2 : decode cX0_countLying 2 = .ok (.iconst 0, 1) := by decide +kernel
theorem dX0_countLying_3 : decode cX0_countLying 3 = .ok (.istore 4, 2) := by decide +kernel
theorem dX0_countLying_5 : decode cX0_countLying 5 = .ok (.iload 4, 2) := by decide +kernel
theorem dX0_countLying_7 : decode cX0_countLying 7 = .ok (.aload_n 1, 1) := by decide +kernel
theorem dX0_countLying_8 : decode cX0_countLying 8 = .ok (.getfield 128, 3) := by decide +kernel
theorem dX0_countLying_11 : decode cX0_countLying 11 = .ok (.if_icmp .ge 34, 3) := by decide +kernel
theorem dX0_countLying_14 : decode cX0_countLying 14 = .ok (.iload_n 3, 1) := by decide +kernel
theorem dX0_countLying_15 : decode cX0_countLying 15 = .ok (.iload_n 2, 1) := by decide +kernel
theorem dX0_countLying_16 : decode cX0_countLying 16 = .ok (.iload 4, 2) := by decide +kernel
theorem dX0_countLying_18 : decode cX0_countLying 18 = .ok (.ishr, 1) := by decide +kernel
theorem dX0_countLying_19 : decode cX0_countLying 19 = .ok (.iconst 1, 1) := by decide +kernel
theorem dX0_countLying_20 : decode cX0_countLying 20 = .ok (.iand, 1) := by decide +kernel
theorem dX0_countLying_21 : decode cX0_countLying 21 = .ok (.ifCond .eq 15, 3) := by decide +kernel
theorem dX0_countLying_24 : decode cX0_countLying 24 = .ok (.aload_n 0, 1) := by decide +kernel
theorem dX0_countLying_25 : decode cX0_countLying 25 = .ok (.getfield 18, 3) := by decide +kernel
theorem dX0_countLying_28 : decode cX0_countLying 28 = .ok (.iload 4, 2) := by decide +kernel
theorem dX0_countLying_30 : decode cX0_countLying 30 = .ok (.invokestatic 67, 3) := by decide +kernel
theorem dX0_countLying_33 : decode cX0_countLying 33 = .ok (.goto 4, 3) := by decide +kernel
theorem dX0_countLying_36 : decode cX0_countLying 36 = .ok (.iconst 0, 1) := by decide +kernel
theorem dX0_countLying_37 : decode cX0_countLying 37 = .ok (.iadd, 1) := by decide +kernel
theorem dX0_countLying_38 : decode cX0_countLying 38 = .ok (.istore_n 3, 1) := by decide +kernel
theorem dX0_countLying_39 : decode cX0_countLying 39 = .ok (.iinc 4 1, 3) := by decide +kernel
theorem dX0_countLying_42 : decode cX0_countLying 42 = .ok (.goto (-37), 3) := by decide +kernel
theorem dX0_countLying_45 : decode cX0_countLying 45 = .ok (.iload_n 3, 1) := by decide +kernel
theorem dX0_countLying_46 : decode cX0_countLying 46 = .ok (.ireturn, 1) := by decide +kernel
theorem dX0_whoseThreadLies_0 : decode cX0_whoseThreadLies 0 = .ok (.iconst 0, 1) := by decide +kernel
theorem dX0_whoseThreadLies_1 : decode cX0_whoseThreadLies 1 = .ok (.istore_n 3, 1) := by decide +kernel
theorem dX0_whoseThreadLies_2 : decode cX0_whoseThreadLies 2 = .ok (.iconst 0, 1) := by decide +kernel
theorem dX0_whoseThreadLies_3 : decode cX0_whoseThreadLies 3 = .ok (.istore 4, 2) := by decide +kernel
theorem dX0_whoseThreadLies_5 : decode cX0_whoseThreadLies 5 = .ok (.iload 4, 2) := by decide +kernel
theorem dX0_whoseThreadLies_7 : decode cX0_whoseThreadLies 7 = .ok (.aload_n 1, 1) := by decide +kernel
theorem dX0_whoseThreadLies_8 : decode cX0_whoseThreadLies 8 = .ok (.getfield 128, 3) := by decide +kernel
theorem dX0_whoseThreadLies_11 : decode cX0_whoseThreadLies 11 = .ok (.if_icmp .ge 37, 3) := by decide +kernel
theorem dX0_whoseThreadLies_14 : decode cX0_whoseThreadLies 14 = .ok (.aload_n 0, 1) := by decide +kernel
theorem dX0_whoseThreadLies_15 : decode cX0_whoseThreadLies 15 = .ok (.getfield 18, 3) := by decide +kernel
theorem dX0_whoseThreadLies_18 : decode cX0_whoseThreadLies 18 = .ok (.iload 4, 2) := by decide +kernel
theorem dX0_whoseThreadLies_20 : decode cX0_whoseThreadLies 20 = .ok (.invokestatic 67, 3) := by decide +kernel
theorem dX0_whoseThreadLies_23 : decode cX0_whoseThreadLies 23 = .ok (.ifCond .le 7, 3) := by decide +kernel
theorem dX0_whoseThreadLies_26 : decode cX0_whoseThreadLies 26 = .ok (.iconst 1, 1) := by decide +kernel
theorem dX0_whoseThreadLies_27 : decode cX0_whoseThreadLies 27 = .ok (.goto 4, 3) := by decide +kernel
theorem dX0_whoseThreadLies_30 : decode cX0_whoseThreadLies 30 = .ok (.iconst 0, 1) := by decide +kernel
theorem dX0_whoseThreadLies_31 : decode cX0_whoseThreadLies 31 = .ok (.iload_n 2, 1) := by decide +kernel
theorem dX0_whoseThreadLies_32 : decode cX0_whoseThreadLies 32 = .ok (.if_icmp .ne 10, 3) := by decide +kernel
theorem dX0_whoseThreadLies_35 : decode cX0_whoseThreadLies 35 = .ok (.iload_n 3, 1) := by decide +kernel
theorem dX0_whoseThreadLies_36 : decode cX0_whoseThreadLies 36 = .ok (.iconst 1, 1) := by decide +kernel
theorem dX0_whoseThreadLies_37 : decode cX0_whoseThreadLies 37 = .ok (.iload 4, 2) := by decide +kernel
theorem dX0_whoseThreadLies_39 : decode cX0_whoseThreadLies 39 = .ok (.ishl, 1) := by decide +kernel
theorem dX0_whoseThreadLies_40 : decode cX0_whoseThreadLies 40 = .ok (.ior, 1) := by decide +kernel
theorem dX0_whoseThreadLies_41 : decode cX0_whoseThreadLies 41 = .ok (.istore_n 3, 1) := by decide +kernel
theorem dX0_whoseThreadLies_42 : decode cX0_whoseThreadLies 42 = .ok (.iinc 4 1, 3) := by decide +kernel
theorem dX0_whoseThreadLies_45 : decode cX0_whoseThreadLies 45 = .ok (.goto (-40), 3) := by decide +kernel
theorem dX0_whoseThreadLies_48 : decode cX0_whoseThreadLies 48 = .ok (.iload_n 3, 1) := by decide +kernel
theorem dX0_whoseThreadLies_49 : decode cX0_whoseThreadLies 49 = .ok (.ireturn, 1) := by decide +kernel
theorem dX0_lostBits_0 : decode cX0_lostBits 0 = .ok (.iconst 0, 1) := by decide +kernel
theorem dX0_lostBits_1 : decode cX0_lostBits 1 = .ok (.istore_n 2, 1) := by decide +kernel
theorem dX0_lostBits_2 : decode cX0_lostBits 2 = .ok (.iconst 0, 1) := by decide +kernel
theorem dX0_lostBits_3 : decode cX0_lostBits 3 = .ok (.istore_n 3, 1) := by decide +kernel
theorem dX0_lostBits_4 : decode cX0_lostBits 4 = .ok (.iload_n 3, 1) := by decide +kernel
theorem dX0_lostBits_5 : decode cX0_lostBits 5 = .ok (.aload_n 1, 1) := by decide +kernel
theorem dX0_lostBits_6 : decode cX0_lostBits 6 = .ok (.getfield 128, 3) := by decide +kernel
theorem dX0_lostBits_9 : decode cX0_lostBits 9 = .ok (.if_icmp .ge 22, 3) := by decide +kernel
theorem dX0_lostBits_12 : decode cX0_lostBits 12 = .ok (.iload_n 2, 1) := by decide +kernel
theorem dX0_lostBits_13 : decode cX0_lostBits 13 = .ok (.aload_n 0, 1) := by decide +kernel
theorem dX0_lostBits_14 : decode cX0_lostBits 14 = .ok (.getfield 21, 3) := by decide +kernel
theorem dX0_lostBits_17 : decode cX0_lostBits 17 = .ok (.iload_n 3, 1) := by decide +kernel
theorem dX0_lostBits_18 : decode cX0_lostBits 18 = .ok (.invokestatic 67, 3) := by decide +kernel
theorem dX0_lostBits_21 : decode cX0_lostBits 21 = .ok (.iload_n 3, 1) := by decide +kernel
theorem dX0_lostBits_22 : decode cX0_lostBits 22 = .ok (.ishl, 1) := by decide +kernel
theorem dX0_lostBits_23 : decode cX0_lostBits 23 = .ok (.ior, 1) := by decide +kernel
theorem dX0_lostBits_24 : decode cX0_lostBits 24 = .ok (.istore_n 2, 1) := by decide +kernel
theorem dX0_lostBits_25 : decode cX0_lostBits 25 = .ok (.iinc 3 1, 3) := by decide +kernel
theorem dX0_lostBits_28 : decode cX0_lostBits 28 = .ok (.goto (-24), 3) := by decide +kernel
theorem dX0_lostBits_31 : decode cX0_lostBits 31 = .ok (.iload_n 2, 1) := by decide +kernel
theorem dX0_lostBits_32 : decode cX0_lostBits 32 = .ok (.ireturn, 1) := by decide +kernel
theorem dX0_span_0 : decode cX0_span 0 = .ok (.aload_n 0, 1) := by decide +kernel
theorem dX0_span_1 : decode cX0_span 1 = .ok (.getfield 9, 3) := by decide +kernel
theorem dX0_span_4 : decode cX0_span 4 = .ok (.iload_n 1, 1) := by decide +kernel
theorem dX0_span_5 : decode cX0_span 5 = .ok (.invokestatic 67, 3) := by decide +kernel
theorem dX0_span_8 : decode cX0_span 8 = .ok (.aload_n 0, 1) := by decide +kernel
theorem dX0_span_9 : decode cX0_span 9 = .ok (.getfield 15, 3) := by decide +kernel
theorem dX0_span_12 : decode cX0_span 12 = .ok (.iload_n 1, 1) := by decide +kernel
theorem dX0_span_13 : decode cX0_span 13 = .ok (.invokestatic 67, 3) := by decide +kernel
theorem dX0_span_16 : decode cX0_span 16 = .ok (.aload_n 0, 1) := by decide +kernel
theorem dX0_span_17 : decode cX0_span 17 = .ok (.getfield 9, 3) := by decide +kernel
theorem dX0_span_20 : decode cX0_span 20 = .ok (.iload_n 2, 1) := by decide +kernel
theorem dX0_span_21 : decode cX0_span 21 = .ok (.invokestatic 67, 3) := by decide +kernel
theorem dX0_span_24 : decode cX0_span 24 = .ok (.aload_n 0, 1) := by decide +kernel
theorem dX0_span_25 : decode cX0_span 25 = .ok (.getfield 15, 3) := by decide +kernel
theorem dX0_span_28 : decode cX0_span 28 = .ok (.iload_n 2, 1) := by decide +kernel
theorem dX0_span_29 : decode cX0_span 29 = .ok (.invokestatic 67, 3) := by decide +kernel
theorem dX0_span_32 : decode cX0_span 32 = .ok (.invokestatic 143, 3) := by decide +kernel
theorem dX0_span_35 : decode cX0_span 35 = .ok (.ireturn, 1) := by decide +kernel
theorem dX0_turnsAbout_0 : decode cX0_turnsAbout 0 = .ok (.iconst 0, 1) := by decide +kernel
theorem dX0_turnsAbout_1 : decode cX0_turnsAbout 1 = .ok (.istore 4, 2) := by decide +kernel
theorem dX0_turnsAbout_3 : decode cX0_turnsAbout 3 = .ok (.iconst 0, 1) := by decide +kernel
theorem dX0_turnsAbout_4 : decode cX0_turnsAbout 4 = .ok (.istore 5, 2) := by decide +kernel
theorem dX0_turnsAbout_6 : decode cX0_turnsAbout 6 = .ok (.iload 5, 2) := by decide +kernel
theorem dX0_turnsAbout_8 : decode cX0_turnsAbout 8 = .ok (.aload_n 0, 1) := by decide +kernel
theorem dX0_turnsAbout_9 : decode cX0_turnsAbout 9 = .ok (.getfield 18, 3) := by decide +kernel
theorem dX0_turnsAbout_12 : decode cX0_turnsAbout 12 = .ok (.iload_n 1, 1) := by decide +kernel
theorem dX0_turnsAbout_13 : decode cX0_turnsAbout 13 = .ok (.invokestatic 67, 3) := by decide +kernel
theorem dX0_turnsAbout_16 : decode cX0_turnsAbout 16 = .ok (.if_icmp .ge 82, 3) := by decide +kernel
theorem dX0_turnsAbout_19 : decode cX0_turnsAbout 19 = .ok (.iload_n 1, 1) := by decide +kernel
theorem dX0_turnsAbout_20 : decode cX0_turnsAbout 20 = .ok (.iload 5, 2) := by decide +kernel
theorem dX0_turnsAbout_22 : decode cX0_turnsAbout 22 = .ok (.invokestatic 83, 3) := by decide +kernel
theorem dX0_turnsAbout_25 : decode cX0_turnsAbout 25 = .ok (.istore 6, 2) := by decide +kernel
theorem dX0_turnsAbout_27 : decode cX0_turnsAbout 27 = .ok (.aload_n 0, 1) := by decide +kernel
theorem dX0_turnsAbout_28 : decode cX0_turnsAbout 28 = .ok (.getfield 24, 3) := by decide +kernel
theorem dX0_turnsAbout_31 : decode cX0_turnsAbout 31 = .ok (.iload 6, 2) := by decide +kernel
theorem dX0_turnsAbout_33 : decode cX0_turnsAbout 33 = .ok (.invokestatic 67, 3) := by decide +kernel
theorem dX0_turnsAbout_36 : decode cX0_turnsAbout 36 = .ok (.istore 7, 2) := by decide +kernel
theorem dX0_turnsAbout_38 : decode cX0_turnsAbout 38 = .ok (.aload_n 0, 1) := by decide +kernel
theorem dX0_turnsAbout_39 : decode cX0_turnsAbout 39 = .ok (.getfield 27, 3) := by decide +kernel
theorem dX0_turnsAbout_42 : decode cX0_turnsAbout 42 = .ok (.iload 6, 2) := by decide +kernel
theorem dX0_turnsAbout_44 : decode cX0_turnsAbout 44 = .ok (.invokestatic 67, 3) := by decide +kernel
theorem dX0_turnsAbout_47 : decode cX0_turnsAbout 47 = .ok (.iconst 2, 1) := by decide +kernel
theorem dX0_turnsAbout_48 : decode cX0_turnsAbout 48 = .ok (.idiv, 1) := by decide +kernel
theorem dX0_turnsAbout_49 : decode cX0_turnsAbout 49 = .ok (.istore 8, 2) := by decide +kernel
theorem dX0_turnsAbout_51 : decode cX0_turnsAbout 51 = .ok (.iload 7, 2) := by decide +kernel
theorem dX0_turnsAbout_53 : decode cX0_turnsAbout 53 = .ok (.iconst 1, 1) := by decide +kernel
theorem dX0_turnsAbout_54 : decode cX0_turnsAbout 54 = .ok (.iand, 1) := by decide +kernel
theorem dX0_turnsAbout_55 : decode cX0_turnsAbout 55 = .ok (.ifCond .eq 37, 3) := by decide +kernel
theorem dX0_turnsAbout_58 : decode cX0_turnsAbout 58 = .ok (.iload 8, 2) := by decide +kernel
theorem dX0_turnsAbout_60 : decode cX0_turnsAbout 60 = .ok (.bipush 12, 2) := by decide +kernel
theorem dX0_turnsAbout_62 : decode cX0_turnsAbout 62 = .ok (.irem, 1) := by decide +kernel
theorem dX0_turnsAbout_63 : decode cX0_turnsAbout 63 = .ok (.iload_n 2, 1) := by decide +kernel
theorem dX0_turnsAbout_64 : decode cX0_turnsAbout 64 = .ok (.if_icmp .le 28, 3) := by decide +kernel
theorem dX0_turnsAbout_67 : decode cX0_turnsAbout 67 = .ok (.iload 8, 2) := by decide +kernel
theorem dX0_turnsAbout_69 : decode cX0_turnsAbout 69 = .ok (.bipush 12, 2) := by decide +kernel
theorem dX0_turnsAbout_71 : decode cX0_turnsAbout 71 = .ok (.idiv, 1) := by decide +kernel
theorem dX0_turnsAbout_72 : decode cX0_turnsAbout 72 = .ok (.iload_n 3, 1) := by decide +kernel
theorem dX0_turnsAbout_73 : decode cX0_turnsAbout 73 = .ok (.if_icmp .ne 19, 3) := by decide +kernel
theorem dX0_turnsAbout_76 : decode cX0_turnsAbout 76 = .ok (.iload 4, 2) := by decide +kernel
theorem dX0_turnsAbout_78 : decode cX0_turnsAbout 78 = .ok (.iload 7, 2) := by decide +kernel
theorem dX0_turnsAbout_80 : decode cX0_turnsAbout 80 = .ok (.iconst 1, 1) := by decide +kernel
theorem dX0_turnsAbout_81 : decode cX0_turnsAbout 81 = .ok (.if_icmp .ne 7, 3) := by decide +kernel
theorem dX0_turnsAbout_84 : decode cX0_turnsAbout 84 = .ok (.iconst 1, 1) := by decide +kernel
theorem dX0_turnsAbout_85 : decode cX0_turnsAbout 85 = .ok (.goto 4, 3) := by decide +kernel
theorem dX0_turnsAbout_88 : decode cX0_turnsAbout 88 = .ok (.iconst (-1), 1) := by decide +kernel
theorem dX0_turnsAbout_89 : decode cX0_turnsAbout 89 = .ok (.iadd, 1) := by decide +kernel
theorem dX0_turnsAbout_90 : decode cX0_turnsAbout 90 = .ok (.istore 4, 2) := by decide +kernel
theorem dX0_turnsAbout_92 : decode cX0_turnsAbout 92 = .ok (.iinc 5 1, 3) := by decide +kernel
theorem dX0_turnsAbout_95 : decode cX0_turnsAbout 95 = .ok (.goto (-89), 3) := by decide +kernel
theorem dX0_turnsAbout_98 : decode cX0_turnsAbout 98 = .ok (.iload 4, 2) := by decide +kernel
theorem dX0_turnsAbout_100 : decode cX0_turnsAbout 100 = .ok (.ireturn, 1) := by decide +kernel
theorem dX1_init_0 : decode cX1_init 0 = .ok (.aload_n 0, 1) := by decide +kernel
theorem dX1_init_1 : decode cX1_init 1 = .ok (.invokespecial 3, 3) := by decide +kernel
theorem dX1_init_4 : decode cX1_init 4 = .ok (.aload_n 0, 1) := by decide +kernel
theorem dX1_init_5 : decode cX1_init 5 = .ok (.bipush 7, 2) := by decide +kernel
theorem dX1_init_7 : decode cX1_init 7 = .ok (.newarray .int, 2) := by decide +kernel
theorem dX1_init_9 : decode cX1_init 9 = .ok (.putfield 9, 3) := by decide +kernel
theorem dX1_init_12 : decode cX1_init 12 = .ok (.return_, 1) := by decide +kernel
theorem dX1_pass_0 : decode cX1_pass 0 = .ok (.aload_n 3, 1) := by decide +kernel
theorem dX1_pass_1 : decode cX1_pass 1 = .ok (.aload_n 2, 1) := by decide +kernel
theorem dX1_pass_2 : decode cX1_pass 2 = .ok (.invokevirtual 15, 3) := by decide +kernel
theorem dX1_pass_5 : decode cX1_pass 5 = .ok (.aload_n 0, 1) := by decide +kernel
theorem dX1_pass_6 : decode cX1_pass 6 = .ok (.iconst 0, 1) := by decide +kernel
theorem dX1_pass_7 : decode cX1_pass 7 = .ok (.putfield 21, 3) := by decide +kernel
theorem dX1_pass_10 : decode cX1_pass 10 = .ok (.aload_n 0, 1) := by decide +kernel
theorem dX1_pass_11 : decode cX1_pass 11 = .ok (.iconst 0, 1) := by decide +kernel
theorem dX1_pass_12 : decode cX1_pass 12 = .ok (.putfield 25, 3) := by decide +kernel
theorem dX1_pass_15 : decode cX1_pass 15 = .ok (.iconst 1, 1) := by decide +kernel
theorem dX1_pass_16 : decode cX1_pass 16 = .ok (.istore 5, 2) := by decide +kernel
theorem dX1_pass_18 : decode cX1_pass 18 = .ok (.iconst 0, 1) := by decide +kernel
theorem dX1_pass_19 : decode cX1_pass 19 = .ok (.istore 6, 2) := by decide +kernel
theorem dX1_pass_21 : decode cX1_pass 21 = .ok (.iload 6, 2) := by decide +kernel
theorem dX1_pass_23 : decode cX1_pass 23 = .ok (.sipush 420, 3) := by decide +kernel
theorem dX1_pass_26 : decode cX1_pass 26 = .ok (.if_icmp .gt 101, 3) := by decide +kernel
theorem dX1_pass_29 : decode cX1_pass 29 = .ok (.iload 5, 2) := by decide +kernel
theorem dX1_pass_31 : decode cX1_pass 31 = .ok (.ifCond .eq 96, 3) := by decide +kernel
theorem dX1_pass_34 : decode cX1_pass 34 = .ok (.iconst 0, 1) := by decide +kernel
theorem dX1_pass_35 : decode cX1_pass 35 = .ok (.istore 7, 2) := by decide +kernel
theorem dX1_pass_37 : decode cX1_pass 37 = .ok (.iload 7, 2) := by decide +kernel
theorem dX1_pass_39 : decode cX1_pass 39 = .ok (.aload_n 1, 1) := by decide +kernel
theorem dX1_pass_40 : decode cX1_pass 40 = .ok (.getfield 28, 3) := by decide +kernel
theorem dX1_pass_43 : decode cX1_pass 43 = .ok (.if_icmp .ge 28, 3) := by decide +kernel
theorem dX1_pass_46 : decode cX1_pass 46 = .ok (.aload_n 0, 1) := by decide +kernel
theorem dX1_pass_47 : decode cX1_pass 47 = .ok (.getfield 9, 3) := by decide +kernel
theorem dX1_pass_50 : decode cX1_pass 50 = .ok (.iload 7, 2) := by decide +kernel
theorem dX1_pass_52 : decode cX1_pass 52 = .ok (.aload_n 0, 1) := by decide +kernel
theorem dX1_pass_53 : decode cX1_pass 53 = .ok (.aload_n 1, 1) := by decide +kernel
theorem dX1_pass_54 : decode cX1_pass 54 = .ok (.aload_n 3, 1) := by decide +kernel
theorem dX1_pass_55 : decode cX1_pass 55 = .ok (.iload 4, 2) := by decide +kernel
theorem dX1_pass_57 : decode cX1_pass 57 = .ok (.iload 7, 2) := by decide +kernel
theorem dX1_pass_59 : decode cX1_pass 59 = .ok (.invokevirtual 33, 3) := by decide +kernel
theorem dX1_pass_62 : decode cX1_pass 62 = .ok (.invokestatic 37, 3) := by decide +kernel
theorem dX1_pass_65 : decode cX1_pass 65 = .ok (.iinc 7 1, 3) := by decide +kernel
theorem dX1_pass_68 : decode cX1_pass 68 = .ok (.goto (-31), 3) := by decide +kernel
theorem dX1_pass_71 : decode cX1_pass 71 = .ok (.aload_n 0, 1) := by decide +kernel
theorem dX1_pass_72 : decode cX1_pass 72 = .ok (.aload_n 1, 1) := by decide +kernel
theorem dX1_pass_73 : decode cX1_pass 73 = .ok (.aload_n 3, 1) := by decide +kernel
theorem dX1_pass_74 : decode cX1_pass 74 = .ok (.invokevirtual 41, 3) := by decide +kernel
theorem dX1_pass_77 : decode cX1_pass 77 = .ok (.istore 7, 2) := by decide +kernel
theorem dX1_pass_79 : decode cX1_pass 79 = .ok (.iload 7, 2) := by decide +kernel
theorem dX1_pass_81 : decode cX1_pass 81 = .ok (.ifCond .le 7, 3) := by decide +kernel
theorem dX1_pass_84 : decode cX1_pass 84 = .ok (.iconst 1, 1) := by decide +kernel
theorem dX1_pass_85 : decode cX1_pass 85 = .ok (.goto 4, 3) := by decide +kernel
theorem dX1_pass_88 : decode cX1_pass 88 = .ok (.iconst 0, 1) := by decide +kernel
theorem dX1_pass_89 : decode cX1_pass 89 = .ok (.istore 5, 2) := by decide +kernel
theorem dX1_pass_91 : decode cX1_pass 91 = .ok (.aload_n 0, 1) := by decide +kernel
theorem dX1_pass_92 : decode cX1_pass 92 = .ok (.dup, 1) := by decide +kernel
theorem dX1_pass_93 : decode cX1_pass 93 = .ok (.getfield 21, 3) := by decide +kernel
theorem dX1_pass_96 : decode cX1_pass 96 = .ok (.iload 5, 2) := by decide +kernel
theorem dX1_pass_98 : decode cX1_pass 98 = .ok (.ifCond .eq 7, 3) := by decide +kernel
theorem dX1_pass_101 : decode cX1_pass 101 = .ok (.iconst 1, 1) := by decide +kernel
theorem dX1_pass_102 : decode cX1_pass 102 = .ok (.goto 4, 3) := by decide +kernel
theorem dX1_pass_105 : decode cX1_pass 105 = .ok (.iconst 0, 1) := by decide +kernel
theorem dX1_pass_106 : decode cX1_pass 106 = .ok (.iadd, 1) := by decide +kernel
theorem dX1_pass_107 : decode cX1_pass 107 = .ok (.putfield 21, 3) := by decide +kernel
theorem dX1_pass_110 : decode cX1_pass 110 = .ok (.aload_n 0, 1) := by decide +kernel
theorem dX1_pass_111 : decode cX1_pass 111 = .ok (.dup, 1) := by decide +kernel
theorem dX1_pass_112 : decode cX1_pass 112 = .ok (.getfield 25, 3) := by decide +kernel
theorem dX1_pass_115 : decode cX1_pass 115 = .ok (.iload 7, 2) := by decide +kernel
theorem dX1_pass_117 : decode cX1_pass 117 = .ok (.iadd, 1) := by decide +kernel
theorem dX1_pass_118 : decode cX1_pass 118 = .ok (.putfield 25, 3) := by decide +kernel
theorem dX1_pass_121 : decode cX1_pass 121 = .ok (.iinc 6 1, 3) := by decide +kernel
theorem dX1_pass_124 : decode cX1_pass 124 = .ok (.goto (-103), 3) := by decide +kernel
theorem dX1_pass_127 : decode cX1_pass 127 = .ok (.return_, 1) := by decide +kernel
theorem dX1_wishOf_0 : decode cX1_wishOf 0 = .ok (.iload_n 3, 1) := by decide +kernel
theorem dX1_wishOf_1 : decode cX1_wishOf 1 = .ok (.tableswitch 93 1 4 #[31, 41, 49, 63], 31) := by decide +kernel
theorem dX1_wishOf_32 : decode cX1_wishOf 32 = .ok (.aload_n 2, 1) := by decide +kernel
theorem dX1_wishOf_33 : decode cX1_wishOf 33 = .ok (.getfield 45, 3) := by decide +kernel
theorem dX1_wishOf_36 : decode cX1_wishOf 36 = .ok (.iload 4, 2) := by decide +kernel
theorem dX1_wishOf_38 : decode cX1_wishOf 38 = .ok (.invokestatic 48, 3) := by decide +kernel
theorem dX1_wishOf_41 : decode cX1_wishOf 41 = .ok (.ireturn, 1) := by decide +kernel
theorem dX1_wishOf_42 : decode cX1_wishOf 42 = .ok (.aload_n 2, 1) := by decide +kernel
theorem dX1_wishOf_43 : decode cX1_wishOf 43 = .ok (.aload_n 1, 1) := by decide +kernel
theorem dX1_wishOf_44 : decode cX1_wishOf 44 = .ok (.iload 4, 2) := by decide +kernel
theorem dX1_wishOf_46 : decode cX1_wishOf 46 = .ok (.invokevirtual 52, 3) := by decide +kernel
theorem dX1_wishOf_49 : decode cX1_wishOf 49 = .ok (.ireturn, 1) := by decide +kernel
theorem dX1_wishOf_50 : decode cX1_wishOf 50 = .ok (.aload_n 2, 1) := by decide +kernel
theorem dX1_wishOf_51 : decode cX1_wishOf 51 = .ok (.getfield 56, 3) := by decide +kernel
theorem dX1_wishOf_54 : decode cX1_wishOf 54 = .ok (.aload_n 2, 1) := by decide +kernel
theorem dX1_wishOf_55 : decode cX1_wishOf 55 = .ok (.iload 4, 2) := by decide +kernel
theorem dX1_wishOf_57 : decode cX1_wishOf 57 = .ok (.invokevirtual 59, 3) := by decide +kernel
theorem dX1_wishOf_60 : decode cX1_wishOf 60 = .ok (.invokestatic 48, 3) := by decide +kernel
theorem dX1_wishOf_63 : decode cX1_wishOf 63 = .ok (.ireturn, 1) := by decide +kernel
theorem dX1_wishOf_64 : decode cX1_wishOf 64 = .ok (.sipush 1000, 3) := by decide +kernel
theorem dX1_wishOf_67 : decode cX1_wishOf 67 = .ok (.aload_n 1, 1) := by decide +kernel
theorem dX1_wishOf_68 : decode cX1_wishOf 68 = .ok (.getfield 63, 3) := by decide +kernel
theorem dX1_wishOf_71 : decode cX1_wishOf 71 = .ok (.sipush 2000, 3) := by decide +kernel
theorem dX1_wishOf_74 : decode cX1_wishOf 74 = .ok (.bipush 8, 2) := by decide +kernel
theorem dX1_wishOf_76 : decode cX1_wishOf 76 = .ok (.aload_n 2, 1) := by decide +kernel
theorem dX1_wishOf_77 : decode cX1_wishOf 77 = .ok (.getfield 66, 3) := by decide +kernel
theorem dX1_wishOf_80 : decode cX1_wishOf 80 = .ok (.aload_n 0, 1) := by decide +kernel
theorem dX1_wishOf_81 : decode cX1_wishOf 81 = .ok (.getfield 21, 3) := by decide +kernel
theorem dX1_wishOf_84 : decode cX1_wishOf 84 = .ok (.iadd, 1) := by decide +kernel
theorem dX1_wishOf_85 : decode cX1_wishOf 85 = .ok (.imul, 1) := by decide +kernel
theorem dX1_wishOf_86 : decode cX1_wishOf 86 = .ok (.iadd, 1) := by decide +kernel
theorem dX1_wishOf_87 : decode cX1_wishOf 87 = .ok (.iload 4, 2) := by decide +kernel
theorem dX1_wishOf_89 : decode cX1_wishOf 89 = .ok (.iadd, 1) := by decide +kernel
theorem dX1_wishOf_90 : decode cX1_wishOf 90 = .ok (.invokestatic 69, 3) := by decide +kernel
theorem dX1_wishOf_93 : decode cX1_wishOf 93 = .ok (.ireturn, 1) := by decide +kernel
theorem dX1_wishOf_94 : decode cX1_wishOf 94 = .ok (.iconst 0, 1) := by decide +kernel
theorem dX1_wishOf_95 : decode cX1_wishOf 95 = .ok (.ireturn, 1) := by decide +kernel
theorem dX1_windOnce_0 : decode cX1_windOnce 0 = .ok (.iconst 0, 1) := by decide +kernel
theorem dX1_windOnce_1 : decode cX1_windOnce 1 = .ok (.istore_n 3, 1) := by decide +kernel
theorem dX1_windOnce_2 : decode cX1_windOnce 2 = .ok (.iconst 0, 1) := by decide +kernel
theorem dX1_windOnce_3 : decode cX1_windOnce 3 = .ok (.istore 4, 2) := by decide +kernel
theorem dX1_windOnce_5 : decode cX1_windOnce 5 = .ok (.iconst 0, 1) := by decide +kernel
theorem dX1_windOnce_6 : decode cX1_windOnce 6 = .ok (.istore 5, 2) := by decide +kernel
theorem dX1_windOnce_8 : decode cX1_windOnce 8 = .ok (.iload 5, 2) := by decide +kernel
theorem dX1_windOnce_10 : decode cX1_windOnce 10 = .ok (.aload_n 1, 1) := by decide +kernel
theorem dX1_windOnce_11 : decode cX1_windOnce 11 = .ok (.getfield 28, 3) := by decide +kernel
theorem dX1_windOnce_14 : decode cX1_windOnce 14 = .ok (.if_icmp .ge 44, 3) := by decide +kernel
theorem dX1_windOnce_17 : decode cX1_windOnce 17 = .ok (.aload_n 0, 1) := by decide +kernel
theorem dX1_windOnce_18 : decode cX1_windOnce 18 = .ok (.aload_n 1, 1) := by decide +kernel
theorem dX1_windOnce_19 : decode cX1_windOnce 19 = .ok (.iload 4, 2) := by decide +kernel
theorem dX1_windOnce_21 : decode cX1_windOnce 21 = .ok (.invokevirtual 73, 3) := by decide +kernel
theorem dX1_windOnce_24 : decode cX1_windOnce 24 = .ok (.istore 6, 2) := by decide +kernel
theorem dX1_windOnce_26 : decode cX1_windOnce 26 = .ok (.iload 4, 2) := by decide +kernel
theorem dX1_windOnce_28 : decode cX1_windOnce 28 = .ok (.iconst 1, 1) := by decide +kernel
theorem dX1_windOnce_29 : decode cX1_windOnce 29 = .ok (.iload 6, 2) := by decide +kernel
theorem dX1_windOnce_31 : decode cX1_windOnce 31 = .ok (.ishl, 1) := by decide +kernel
theorem dX1_windOnce_32 : decode cX1_windOnce 32 = .ok (.ior, 1) := by decide +kernel
theorem dX1_windOnce_33 : decode cX1_windOnce 33 = .ok (.istore 4, 2) := by decide +kernel
theorem dX1_windOnce_35 : decode cX1_windOnce 35 = .ok (.iload_n 3, 1) := by decide +kernel
theorem dX1_windOnce_36 : decode cX1_windOnce 36 = .ok (.aload_n 2, 1) := by decide +kernel
theorem dX1_windOnce_37 : decode cX1_windOnce 37 = .ok (.iload 6, 2) := by decide +kernel
theorem dX1_windOnce_39 : decode cX1_windOnce 39 = .ok (.invokevirtual 76, 3) := by decide +kernel
theorem dX1_windOnce_42 : decode cX1_windOnce 42 = .ok (.ifCond .eq 7, 3) := by decide +kernel
theorem dX1_windOnce_45 : decode cX1_windOnce 45 = .ok (.iconst 1, 1) := by decide +kernel
theorem dX1_windOnce_46 : decode cX1_windOnce 46 = .ok (.goto 4, 3) := by decide +kernel
theorem dX1_windOnce_49 : decode cX1_windOnce 49 = .ok (.iconst 0, 1) := by decide +kernel
theorem dX1_windOnce_50 : decode cX1_windOnce 50 = .ok (.iadd, 1) := by decide +kernel
theorem dX1_windOnce_51 : decode cX1_windOnce 51 = .ok (.istore_n 3, 1) := by decide +kernel
theorem dX1_windOnce_52 : decode cX1_windOnce 52 = .ok (.iinc 5 1, 3) := by decide +kernel
theorem dX1_windOnce_55 : decode cX1_windOnce 55 = .ok (.goto (-47), 3) := by decide +kernel
theorem dX1_windOnce_58 : decode cX1_windOnce 58 = .ok (.iload_n 3, 1) := by decide +kernel
theorem dX1_windOnce_59 : decode cX1_windOnce 59 = .ok (.ireturn, 1) := by decide +kernel
theorem dX1_greatest_0 : decode cX1_greatest 0 = .ok (.iconst 0, 1) := by decide +kernel
theorem dX1_greatest_1 : decode cX1_greatest 1 = .ok (.istore_n 3, 1) := by decide +kernel
theorem dX1_greatest_2 : decode cX1_greatest 2 = .ok (.iconst (-1), 1) := by decide +kernel
theorem dX1_greatest_3 : decode cX1_greatest 3 = .ok (.istore 4, 2) := by decide +kernel
theorem dX1_greatest_5 : decode cX1_greatest 5 = .ok (.iconst 0, 1) := by decide +kernel
theorem dX1_greatest_6 : decode cX1_greatest 6 = .ok (.istore 5, 2) := by decide +kernel
theorem dX1_greatest_8 : decode cX1_greatest 8 = .ok (.iload 5, 2) := by decide +kernel
theorem dX1_greatest_10 : decode cX1_greatest 10 = .ok (.aload_n 1, 1) := by decide +kernel
theorem dX1_greatest_11 : decode cX1_greatest 11 = .ok (.getfield 28, 3) := by decide +kernel
theorem dX1_greatest_14 : decode cX1_greatest 14 = .ok (.if_icmp .ge 46, 3) := by decide +kernel
theorem dX1_greatest_17 : decode cX1_greatest 17 = .ok (.iload_n 2, 1) := by decide +kernel
theorem dX1_greatest_18 : decode cX1_greatest 18 = .ok (.iload 5, 2) := by decide +kernel
theorem dX1_greatest_20 : decode cX1_greatest 20 = .ok (.ishr, 1) := by decide +kernel
theorem dX1_greatest_21 : decode cX1_greatest 21 = .ok (.iconst 1, 1) := by decide +kernel
theorem dX1_greatest_22 : decode cX1_greatest 22 = .ok (.iand, 1) := by decide +kernel
theorem dX1_greatest_23 : decode cX1_greatest 23 = .ok (.ifCond .ne 31, 3) := by decide +kernel
theorem dX1_greatest_26 : decode cX1_greatest 26 = .ok (.aload_n 0, 1) := by decide +kernel
theorem dX1_greatest_27 : decode cX1_greatest 27 = .ok (.getfield 9, 3) := by decide +kernel
theorem dX1_greatest_30 : decode cX1_greatest 30 = .ok (.iload 5, 2) := by decide +kernel
theorem dX1_greatest_32 : decode cX1_greatest 32 = .ok (.invokestatic 48, 3) := by decide +kernel
theorem dX1_greatest_35 : decode cX1_greatest 35 = .ok (.iload 4, 2) := by decide +kernel
theorem dX1_greatest_37 : decode cX1_greatest 37 = .ok (.if_icmp .le 17, 3) := by decide +kernel
theorem dX1_greatest_40 : decode cX1_greatest 40 = .ok (.iload 5, 2) := by decide +kernel
theorem dX1_greatest_42 : decode cX1_greatest 42 = .ok (.istore_n 3, 1) := by decide +kernel
theorem dX1_greatest_43 : decode cX1_greatest 43 = .ok (.aload_n 0, 1) := by decide +kernel
theorem dX1_greatest_44 : decode cX1_greatest 44 = .ok (.getfield 9, 3) := by decide +kernel
theorem dX1_greatest_47 : decode cX1_greatest 47 = .ok (.iload 5, 2) := by decide +kernel
theorem dX1_greatest_49 : decode cX1_greatest 49 = .ok (.invokestatic 48, 3) := by decide +kernel
theorem dX1_greatest_52 : decode cX1_greatest 52 = .ok (.istore 4, 2) := by decide +kernel
theorem dX1_greatest_54 : decode cX1_greatest 54 = .ok (.iinc 5 1, 3) := by decide +kernel
theorem dX1_greatest_57 : decode cX1_greatest 57 = .ok (.goto (-49), 3) := by decide +kernel
theorem dX1_greatest_60 : decode cX1_greatest 60 = .ok (.iload_n 3, 1) := by decide +kernel
theorem dX1_greatest_61 : decode cX1_greatest 61 = .ok (.ireturn, 1) := by decide +kernel
theorem dX2_init_0 : decode cX2_init 0 = .ok (.aload_n 0, 1) := by decide +kernel
theorem dX2_init_1 : decode cX2_init 1 = .ok (.invokespecial 3, 3) := by decide +kernel
theorem dX2_init_4 : decode cX2_init 4 = .ok (.aload_n 0, 1) := by decide +kernel
theorem dX2_init_5 : decode cX2_init 5 = .ok (.sipush 401, 3) := by decide +kernel
theorem dX2_init_8 : decode cX2_init 8 = .ok (.newarray .int, 2) := by decide +kernel
theorem dX2_init_10 : decode cX2_init 10 = .ok (.putfield 9, 3) := by decide +kernel
theorem dX2_init_13 : decode cX2_init 13 = .ok (.aload_n 0, 1) := by decide +kernel
theorem dX2_init_14 : decode cX2_init 14 = .ok (.sipush 401, 3) := by decide +kernel
theorem dX2_init_17 : decode cX2_init 17 = .ok (.newarray .int, 2) := by decide +kernel
theorem dX2_init_19 : decode cX2_init 19 = .ok (.putfield 15, 3) := by decide +kernel
theorem dX2_init_22 : decode cX2_init 22 = .ok (.aload_n 0, 1) := by decide +kernel
theorem dX2_init_23 : decode cX2_init 23 = .ok (.bipush 6, 2) := by decide +kernel
theorem dX2_init_25 : decode cX2_init 25 = .ok (.newarray .int, 2) := by decide +kernel
theorem dX2_init_27 : decode cX2_init 27 = .ok (.putfield 18, 3) := by decide +kernel
theorem dX2_init_30 : decode cX2_init 30 = .ok (.aload_n 0, 1) := by decide +kernel
theorem dX2_init_31 : decode cX2_init 31 = .ok (.bipush 32, 2) := by decide +kernel
theorem dX2_init_33 : decode cX2_init 33 = .ok (.newarray .int, 2) := by decide +kernel
theorem dX2_init_35 : decode cX2_init 35 = .ok (.putfield 21, 3) := by decide +kernel
theorem dX2_init_38 : decode cX2_init 38 = .ok (.return_, 1) := by decide +kernel
theorem dX2_add_0 : decode cX2_add 0 = .ok (.aload_n 0, 1) := by decide +kernel
theorem dX2_add_1 : decode cX2_add 1 = .ok (.getfield 9, 3) := by decide +kernel
theorem dX2_add_4 : decode cX2_add 4 = .ok (.aload_n 0, 1) := by decide +kernel
theorem dX2_add_5 : decode cX2_add 5 = .ok (.getfield 24, 3) := by decide +kernel
theorem dX2_add_8 : decode cX2_add 8 = .ok (.iload_n 1, 1) := by decide +kernel
theorem dX2_add_9 : decode cX2_add 9 = .ok (.invokestatic 28, 3) := by decide +kernel
theorem dX2_add_12 : decode cX2_add 12 = .ok (.aload_n 0, 1) := by decide +kernel
theorem dX2_add_13 : decode cX2_add 13 = .ok (.getfield 15, 3) := by decide +kernel
theorem dX2_add_16 : decode cX2_add 16 = .ok (.aload_n 0, 1) := by decide +kernel
theorem dX2_add_17 : decode cX2_add 17 = .ok (.getfield 24, 3) := by decide +kernel
theorem dX2_add_20 : decode cX2_add 20 = .ok (.iload_n 2, 1) := by decide +kernel
theorem dX2_add_21 : decode cX2_add 21 = .ok (.invokestatic 28, 3) := by decide +kernel
theorem dX2_add_24 : decode cX2_add 24 = .ok (.aload_n 0, 1) := by decide +kernel
theorem dX2_add_25 : decode cX2_add 25 = .ok (.dup, 1) := by decide +kernel
theorem dX2_add_26 : decode cX2_add 26 = .ok (.getfield 24, 3) := by decide +kernel
theorem dX2_add_29 : decode cX2_add 29 = .ok (.iconst 1, 1) := by decide +kernel
theorem dX2_add_30 : decode cX2_add 30 = .ok (.iadd, 1) := by decide +kernel
theorem dX2_add_31 : decode cX2_add 31 = .ok (.putfield 24, 3) := by decide +kernel
theorem dX2_add_34 : decode cX2_add 34 = .ok (.return_, 1) := by decide +kernel
theorem dX2_aim_0 : decode cX2_aim 0 = .ok (.aload_n 0, 1) := by decide +kernel
theorem dX2_aim_1 : decode cX2_aim 1 = .ok (.getfield 15, 3) := by decide +kernel
theorem dX2_aim_4 : decode cX2_aim 4 = .ok (.iload_n 1, 1) := by decide +kernel
theorem dX2_aim_5 : decode cX2_aim 5 = .ok (.aload_n 0, 1) := by decide +kernel
theorem dX2_aim_6 : decode cX2_aim 6 = .ok (.getfield 24, 3) := by decide +kernel
theorem dX2_aim_9 : decode cX2_aim 9 = .ok (.invokestatic 28, 3) := by decide +kernel
theorem dX2_aim_12 : decode cX2_aim 12 = .ok (.return_, 1) := by decide +kernel
theorem dX2_value_0 : decode cX2_value 0 = .ok (.aload_n 0, 1) := by decide +kernel
theorem dX2_value_1 : decode cX2_value 1 = .ok (.getfield 18, 3) := by decide +kernel
theorem dX2_value_4 : decode cX2_value 4 = .ok (.iconst 0, 1) := by decide +kernel
theorem dX2_value_5 : decode cX2_value 5 = .ok (.iload_n 2, 1) := by decide +kernel
theorem dX2_value_6 : decode cX2_value 6 = .ok (.invokestatic 28, 3) := by decide +kernel
theorem dX2_value_9 : decode cX2_value 9 = .ok (.aload_n 0, 1) := by decide +kernel
theorem dX2_value_10 : decode cX2_value 10 = .ok (.getfield 18, 3) := by decide +kernel
theorem dX2_value_13 : decode cX2_value 13 = .ok (.iconst 1, 1) := by decide +kernel
theorem dX2_value_14 : decode cX2_value 14 = .ok (.iload_n 3, 1) := by decide +kernel
theorem dX2_value_15 : decode cX2_value 15 = .ok (.invokestatic 28, 3) := by decide +kernel
theorem dX2_value_18 : decode cX2_value 18 = .ok (.aload_n 0, 1) := by decide +kernel
theorem dX2_value_19 : decode cX2_value 19 = .ok (.getfield 18, 3) := by decide +kernel
theorem dX2_value_22 : decode cX2_value 22 = .ok (.iconst 2, 1) := by decide +kernel
theorem dX2_value_23 : decode cX2_value 23 = .ok (.iload 4, 2) := by decide +kernel
theorem dX2_value_25 : decode cX2_value 25 = .ok (.invokestatic 28, 3) := by decide +kernel
theorem dX2_value_28 : decode cX2_value 28 = .ok (.aload_n 0, 1) := by decide +kernel
theorem dX2_value_29 : decode cX2_value 29 = .ok (.getfield 18, 3) := by decide +kernel
theorem dX2_value_32 : decode cX2_value 32 = .ok (.iconst 3, 1) := by decide +kernel
theorem dX2_value_33 : decode cX2_value 33 = .ok (.iload 5, 2) := by decide +kernel
theorem dX2_value_35 : decode cX2_value 35 = .ok (.invokestatic 28, 3) := by decide +kernel
theorem dX2_value_38 : decode cX2_value 38 = .ok (.aload_n 0, 1) := by decide +kernel
theorem dX2_value_39 : decode cX2_value 39 = .ok (.getfield 18, 3) := by decide +kernel
theorem dX2_value_42 : decode cX2_value 42 = .ok (.iconst 4, 1) := by decide +kernel
theorem dX2_value_43 : decode cX2_value 43 = .ok (.iload 6, 2) := by decide +kernel
theorem dX2_value_45 : decode cX2_value 45 = .ok (.invokestatic 28, 3) := by decide +kernel
theorem dX2_value_48 : decode cX2_value 48 = .ok (.aload_n 0, 1) := by decide +kernel
theorem dX2_value_49 : decode cX2_value 49 = .ok (.getfield 18, 3) := by decide +kernel
theorem dX2_value_52 : decode cX2_value 52 = .ok (.iconst 5, 1) := by decide +kernel
theorem dX2_value_53 : decode cX2_value 53 = .ok (.iload 7, 2) := by decide +kernel
theorem dX2_value_55 : decode cX2_value 55 = .ok (.invokestatic 28, 3) := by decide +kernel
theorem dX2_value_58 : decode cX2_value 58 = .ok (.iload_n 1, 1) := by decide +kernel
theorem dX2_value_59 : decode cX2_value 59 = .ok (.istore 8, 2) := by decide +kernel
theorem dX2_value_61 : decode cX2_value 61 = .ok (.iconst 0, 1) := by decide +kernel
theorem dX2_value_62 : decode cX2_value 62 = .ok (.istore 9, 2) := by decide +kernel
theorem dX2_value_64 : decode cX2_value 64 = .ok (.iconst 0, 1) := by decide +kernel
theorem dX2_value_65 : decode cX2_value 65 = .ok (.istore 10, 2) := by decide +kernel
theorem dX2_value_67 : decode cX2_value 67 = .ok (.iload 10, 2) := by decide +kernel
theorem dX2_value_69 : decode cX2_value 69 = .ok (.sipush 400, 3) := by decide +kernel
theorem dX2_value_72 : decode cX2_value 72 = .ok (.if_icmp .gt 187, 3) := by decide +kernel
theorem dX2_value_75 : decode cX2_value 75 = .ok (.aload_n 0, 1) := by decide +kernel
theorem dX2_value_76 : decode cX2_value 76 = .ok (.getfield 9, 3) := by decide +kernel
theorem dX2_value_79 : decode cX2_value 79 = .ok (.iload 8, 2) := by decide +kernel
theorem dX2_value_81 : decode cX2_value 81 = .ok (.invokestatic 32, 3) := by decide +kernel
theorem dX2_value_84 : decode cX2_value 84 = .ok (.istore 11, 2) := by decide +kernel
theorem dX2_value_86 : decode cX2_value 86 = .ok (.aload_n 0, 1) := by decide +kernel
theorem dX2_value_87 : decode cX2_value 87 = .ok (.getfield 15, 3) := by decide +kernel
theorem dX2_value_90 : decode cX2_value 90 = .ok (.iload 8, 2) := by decide +kernel
theorem dX2_value_92 : decode cX2_value 92 = .ok (.invokestatic 32, 3) := by decide +kernel
theorem dX2_value_95 : decode cX2_value 95 = .ok (.istore 12, 2) := by decide +kernel
theorem dX2_value_97 : decode cX2_value 97 = .ok (.iinc 8 1, 3) := by decide +kernel
theorem dX2_value_100 : decode cX2_value 100 = .ok (.iload 11, 2) := by decide +kernel
theorem dX2_value_102 : decode cX2_value 102 = .ok (.ifCond .ne 15, 3) := by decide +kernel
theorem dX2_value_105 : decode cX2_value 105 = .ok (.aload_n 0, 1) := by decide +kernel
theorem dX2_value_106 : decode cX2_value 106 = .ok (.getfield 21, 3) := by decide +kernel
theorem dX2_value_109 : decode cX2_value 109 = .ok (.iload 9, 2) := by decide +kernel
theorem dX2_value_111 : decode cX2_value 111 = .ok (.iconst 1, 1) := by decide +kernel
theorem dX2_value_112 : decode cX2_value 112 = .ok (.isub, 1) := by decide +kernel
theorem dX2_value_113 : decode cX2_value 113 = .ok (.invokestatic 32, 3) := by decide +kernel
theorem dX2_value_116 : decode cX2_value 116 = .ok (.ireturn, 1) := by decide +kernel
theorem dX2_value_117 : decode cX2_value 117 = .ok (.iload 11, 2) := by decide +kernel
theorem dX2_value_119 : decode cX2_value 119 = .ok (.iconst 1, 1) := by decide +kernel
theorem dX2_value_120 : decode cX2_value 120 = .ok (.if_icmp .eq 9, 3) := by decide +kernel
theorem dX2_value_123 : decode cX2_value 123 = .ok (.iload 11, 2) := by decide +kernel
theorem dX2_value_125 : decode cX2_value 125 = .ok (.iconst 2, 1) := by decide +kernel
theorem dX2_value_126 : decode cX2_value 126 = .ok (.if_icmp .ne 38, 3) := by decide +kernel
theorem dX2_value_129 : decode cX2_value 129 = .ok (.aload_n 0, 1) := by decide +kernel
theorem dX2_value_130 : decode cX2_value 130 = .ok (.getfield 21, 3) := by decide +kernel
theorem dX2_value_133 : decode cX2_value 133 = .ok (.iload 9, 2) := by decide +kernel
theorem dX2_value_135 : decode cX2_value 135 = .ok (.iload 11, 2) := by decide +kernel
theorem dX2_value_137 : decode cX2_value 137 = .ok (.iconst 1, 1) := by decide +kernel
theorem dX2_value_138 : decode cX2_value 138 = .ok (.if_icmp .ne 8, 3) := by decide +kernel
theorem dX2_value_141 : decode cX2_value 141 = .ok (.iload 12, 2) := by decide +kernel
theorem dX2_value_143 : decode cX2_value 143 = .ok (.goto 12, 3) := by decide +kernel
theorem dX2_value_146 : decode cX2_value 146 = .ok (.aload_n 0, 1) := by decide +kernel
theorem dX2_value_147 : decode cX2_value 147 = .ok (.getfield 18, 3) := by decide +kernel
theorem dX2_value_150 : decode cX2_value 150 = .ok (.iload 12, 2) := by decide +kernel
theorem dX2_value_152 : decode cX2_value 152 = .ok (.invokestatic 32, 3) := by decide +kernel
theorem dX2_value_155 : decode cX2_value 155 = .ok (.invokestatic 28, 3) := by decide +kernel
theorem dX2_value_158 : decode cX2_value 158 = .ok (.iinc 9 1, 3) := by decide +kernel
theorem dX2_value_161 : decode cX2_value 161 = .ok (.goto 92, 3) := by decide +kernel
theorem dX2_value_164 : decode cX2_value 164 = .ok (.aload_n 0, 1) := by decide +kernel
theorem dX2_value_165 : decode cX2_value 165 = .ok (.getfield 21, 3) := by decide +kernel
theorem dX2_value_168 : decode cX2_value 168 = .ok (.iload 9, 2) := by decide +kernel
theorem dX2_value_170 : decode cX2_value 170 = .ok (.iconst 2, 1) := by decide +kernel
theorem dX2_value_171 : decode cX2_value 171 = .ok (.isub, 1) := by decide +kernel
theorem dX2_value_172 : decode cX2_value 172 = .ok (.invokestatic 32, 3) := by decide +kernel
theorem dX2_value_175 : decode cX2_value 175 = .ok (.istore 13, 2) := by decide +kernel
theorem dX2_value_177 : decode cX2_value 177 = .ok (.aload_n 0, 1) := by decide +kernel
theorem dX2_value_178 : decode cX2_value 178 = .ok (.getfield 21, 3) := by decide +kernel
theorem dX2_value_181 : decode cX2_value 181 = .ok (.iload 9, 2) := by decide +kernel
theorem dX2_value_183 : decode cX2_value 183 = .ok (.iconst 1, 1) := by decide +kernel
theorem dX2_value_184 : decode cX2_value 184 = .ok (.isub, 1) := by decide +kernel
theorem dX2_value_185 : decode cX2_value 185 = .ok (.invokestatic 32, 3) := by decide +kernel
theorem dX2_value_188 : decode cX2_value 188 = .ok (.istore 14, 2) := by decide +kernel
theorem dX2_value_190 : decode cX2_value 190 = .ok (.iinc 9 (-2), 3) := by decide +kernel
theorem dX2_value_193 : decode cX2_value 193 = .ok (.iload 11, 2) := by decide +kernel
theorem dX2_value_195 : decode cX2_value 195 = .ok (.iconst 3, 1) := by decide +kernel
theorem dX2_value_196 : decode cX2_value 196 = .ok (.if_icmp .ne 22, 3) := by decide +kernel
theorem dX2_value_199 : decode cX2_value 199 = .ok (.iload 13, 2) := by decide +kernel
theorem dX2_value_201 : decode cX2_value 201 = .ok (.iload 14, 2) := by decide +kernel
theorem dX2_value_203 : decode cX2_value 203 = .ok (.if_icmp .ge 8, 3) := by decide +kernel
theorem dX2_value_206 : decode cX2_value 206 = .ok (.iload 8, 2) := by decide +kernel
theorem dX2_value_208 : decode cX2_value 208 = .ok (.goto 5, 3) := by decide +kernel
theorem dX2_value_211 : decode cX2_value 211 = .ok (.iload 12, 2) := by decide +kernel
theorem dX2_value_213 : decode cX2_value 213 = .ok (.istore 8, 2) := by decide +kernel
theorem dX2_value_215 : decode cX2_value 215 = .ok (.goto 38, 3) := by decide +kernel
theorem dX2_value_218 : decode cX2_value 218 = .ok (.iload 11, 2) := by decide +kernel
theorem dX2_value_220 : decode cX2_value 220 = .ok (.bipush 47, 2) := by decide +kernel
theorem dX2_value_222 : decode cX2_value 222 = .ok (.if_icmp .ne 10, 3) := by decide +kernel
theorem dX2_value_225 : decode cX2_value 225 = .ok (.iload 14, 2) := by decide +kernel
theorem dX2_value_227 : decode cX2_value 227 = .ok (.ifCond .ne 5, 3) := by decide +kernel
theorem dX2_value_230 : decode cX2_value 230 = .ok (.iconst 0, 1) := by decide +kernel
theorem dX2_value_231 : decode cX2_value 231 = .ok (.ireturn, 1) := by decide +kernel
theorem dX2_value_232 : decode cX2_value 232 = .ok (.aload_n 0, 1) := by decide +kernel
theorem dX2_value_233 : decode cX2_value 233 = .ok (.getfield 21, 3) := by decide +kernel
theorem dX2_value_236 : decode cX2_value 236 = .ok (.iload 9, 2) := by decide +kernel
theorem dX2_value_238 : decode cX2_value 238 = .ok (.iload 11, 2) := by decide +kernel
theorem dX2_value_240 : decode cX2_value 240 = .ok (.iload 13, 2) := by decide +kernel
theorem dX2_value_242 : decode cX2_value 242 = .ok (.iload 14, 2) := by decide +kernel
theorem dX2_value_244 : decode cX2_value 244 = .ok (.invokestatic 36, 3) := by decide +kernel
theorem dX2_value_247 : decode cX2_value 247 = .ok (.invokestatic 28, 3) := by decide +kernel
theorem dX2_value_250 : decode cX2_value 250 = .ok (.iinc 9 1, 3) := by decide +kernel
theorem dX2_value_253 : decode cX2_value 253 = .ok (.iinc 10 1, 3) := by decide +kernel
theorem dX2_value_256 : decode cX2_value 256 = .ok (.goto (-189), 3) := by decide +kernel
theorem dX2_value_259 : decode cX2_value 259 = .ok (.iconst 0, 1) := by decide +kernel
theorem dX2_value_260 : decode cX2_value 260 = .ok (.ireturn, 1) := by decide +kernel
theorem dX2_reckon_0 : decode cX2_reckon 0 = .ok (.iload_n 0, 1) := by decide +kernel
theorem dX2_reckon_1 : decode cX2_reckon 1 = .ok (.tableswitch 43 42 45 #[39, 31, 43, 35], 31) := by decide +kernel
theorem dX2_reckon_32 : decode cX2_reckon 32 = .ok (.iload_n 1, 1) := by decide +kernel
theorem dX2_reckon_33 : decode cX2_reckon 33 = .ok (.iload_n 2, 1) := by decide +kernel
theorem dX2_reckon_34 : decode cX2_reckon 34 = .ok (.iadd, 1) := by decide +kernel
theorem dX2_reckon_35 : decode cX2_reckon 35 = .ok (.ireturn, 1) := by decide +kernel
theorem dX2_reckon_36 : decode cX2_reckon 36 = .ok (.iload_n 1, 1) := by decide +kernel
theorem dX2_reckon_37 : decode cX2_reckon 37 = .ok (.iload_n 2, 1) := by decide +kernel
theorem dX2_reckon_38 : decode cX2_reckon 38 = .ok (.isub, 1) := by decide +kernel
theorem dX2_reckon_39 : decode cX2_reckon 39 = .ok (.ireturn, 1) := by decide +kernel
theorem dX2_reckon_40 : decode cX2_reckon 40 = .ok (.iload_n 1, 1) := by decide +kernel
theorem dX2_reckon_41 : decode cX2_reckon 41 = .ok (.iload_n 2, 1) := by decide +kernel
theorem dX2_reckon_42 : decode cX2_reckon 42 = .ok (.imul, 1) := by decide +kernel
theorem dX2_reckon_43 : decode cX2_reckon 43 = .ok (.ireturn, 1) := by decide +kernel
theorem dX2_reckon_44 : decode cX2_reckon 44 = .ok (.iload_n 2, 1) := by decide +kernel
theorem dX2_reckon_45 : decode cX2_reckon 45 = .ok (.ifCond .ne 7, 3) := by decide +kernel
theorem dX2_reckon_48 : decode cX2_reckon 48 = .ok (.iconst 0, 1) := by decide +kernel
theorem dX2_reckon_49 : decode cX2_reckon 49 = .ok (.goto 6, 3) := by decide +kernel
theorem dX2_reckon_52 : decode cX2_reckon 52 = .ok (.iload_n 1, 1) := by decide +kernel
theorem dX2_reckon_53 : decode cX2_reckon 53 = .ok (.iload_n 2, 1) := by decide +kernel
theorem dX2_reckon_54 : decode cX2_reckon 54 = .ok (.idiv, 1) := by decide +kernel
theorem dX2_reckon_55 : decode cX2_reckon 55 = .ok (.ireturn, 1) := by decide +kernel
theorem dX3_init_0 : decode cX3_init 0 = .ok (.aload_n 0, 1) := by decide +kernel
theorem dX3_init_1 : decode cX3_init 1 = .ok (.invokespecial 3, 3) := by decide +kernel
theorem dX3_init_4 : decode cX3_init 4 = .ok (.aload_n 0, 1) := by decide +kernel
theorem dX3_init_5 : decode cX3_init 5 = .ok (.bipush 30, 2) := by decide +kernel
theorem dX3_init_7 : decode cX3_init 7 = .ok (.anewarray 9, 3) := by decide +kernel
theorem dX3_init_10 : decode cX3_init 10 = .ok (.putfield 11, 3) := by decide +kernel
theorem dX3_init_13 : decode cX3_init 13 = .ok (.aload_n 0, 1) := by decide +kernel
theorem dX3_init_14 : decode cX3_init 14 = .ok (.iconst 3, 1) := by decide +kernel
theorem dX3_init_15 : decode cX3_init 15 = .ok (.anewarray 9, 3) := by decide +kernel
theorem dX3_init_18 : decode cX3_init 18 = .ok (.putfield 17, 3) := by decide +kernel
theorem dX3_init_21 : decode cX3_init 21 = .ok (.aload_n 0, 1) := by decide +kernel
theorem dX3_init_22 : decode cX3_init 22 = .ok (.iconst 3, 1) := by decide +kernel
theorem dX3_init_23 : decode cX3_init 23 = .ok (.newarray .int, 2) := by decide +kernel
theorem dX3_init_25 : decode cX3_init 25 = .ok (.putfield 20, 3) := by decide +kernel
theorem dX3_init_28 : decode cX3_init 28 = .ok (.iconst 0, 1) := by decide +kernel
theorem dX3_init_29 : decode cX3_init 29 = .ok (.istore_n 1, 1) := by decide +kernel
theorem dX3_init_30 : decode cX3_init 30 = .ok (.iload_n 1, 1) := by decide +kernel
theorem dX3_init_31 : decode cX3_init 31 = .ok (.aload_n 0, 1) := by decide +kernel
theorem dX3_init_32 : decode cX3_init 32 = .ok (.getfield 11, 3) := by decide +kernel
theorem dX3_init_35 : decode cX3_init 35 = .ok (.arraylength, 1) := by decide +kernel
theorem dX3_init_36 : decode cX3_init 36 = .ok (.if_icmp .ge 22, 3) := by decide +kernel
theorem dX3_init_39 : decode cX3_init 39 = .ok (.aload_n 0, 1) := by decide +kernel
theorem dX3_init_40 : decode cX3_init 40 = .ok (.getfield 11, 3) := by decide +kernel
theorem dX3_init_43 : decode cX3_init 43 = .ok (.iload_n 1, 1) := by decide +kernel
theorem dX3_init_44 : decode cX3_init 44 = .ok (.new 9, 3) := by decide +kernel
theorem dX3_init_47 : decode cX3_init 47 = .ok (.dup, 1) := by decide +kernel
theorem dX3_init_48 : decode cX3_init 48 = .ok (.invokespecial 24, 3) := by decide +kernel
theorem dX3_init_51 : decode cX3_init 51 = .ok (.aastore, 1) := by decide +kernel
theorem dX3_init_52 : decode cX3_init 52 = .ok (.iinc 1 1, 3) := by decide +kernel
theorem dX3_init_55 : decode cX3_init 55 = .ok (.goto (-25), 3) := by decide +kernel
theorem dX3_init_58 : decode cX3_init 58 = .ok (.iconst 0, 1) := by decide +kernel
theorem dX3_init_59 : decode cX3_init 59 = .ok (.istore_n 1, 1) := by decide +kernel
theorem dX3_init_60 : decode cX3_init 60 = .ok (.iload_n 1, 1) := by decide +kernel
theorem dX3_init_61 : decode cX3_init 61 = .ok (.aload_n 0, 1) := by decide +kernel
theorem dX3_init_62 : decode cX3_init 62 = .ok (.getfield 17, 3) := by decide +kernel
theorem dX3_init_65 : decode cX3_init 65 = .ok (.arraylength, 1) := by decide +kernel
theorem dX3_init_66 : decode cX3_init 66 = .ok (.if_icmp .ge 22, 3) := by decide +kernel
theorem dX3_init_69 : decode cX3_init 69 = .ok (.aload_n 0, 1) := by decide +kernel
theorem dX3_init_70 : decode cX3_init 70 = .ok (.getfield 17, 3) := by decide +kernel
theorem dX3_init_73 : decode cX3_init 73 = .ok (.iload_n 1, 1) := by decide +kernel
theorem dX3_init_74 : decode cX3_init 74 = .ok (.new 9, 3) := by decide +kernel
theorem dX3_init_77 : decode cX3_init 77 = .ok (.dup, 1) := by decide +kernel
theorem dX3_init_78 : decode cX3_init 78 = .ok (.invokespecial 24, 3) := by decide +kernel
theorem dX3_init_81 : decode cX3_init 81 = .ok (.aastore, 1) := by decide +kernel
theorem dX3_init_82 : decode cX3_init 82 = .ok (.iinc 1 1, 3) := by decide +kernel
theorem dX3_init_85 : decode cX3_init 85 = .ok (.goto (-25), 3) := by decide +kernel
theorem dX3_init_88 : decode cX3_init 88 = .ok (.return_, 1) := by decide +kernel
theorem dX3_empty_0 : decode cX3_empty 0 = .ok (.aload_n 0, 1) := by decide +kernel
theorem dX3_empty_1 : decode cX3_empty 1 = .ok (.iconst 0, 1) := by decide +kernel
theorem dX3_empty_2 : decode cX3_empty 2 = .ok (.putfield 25, 3) := by decide +kernel
theorem dX3_empty_5 : decode cX3_empty 5 = .ok (.aload_n 0, 1) := by decide +kernel
theorem dX3_empty_6 : decode cX3_empty 6 = .ok (.getfield 20, 3) := by decide +kernel
theorem dX3_empty_9 : decode cX3_empty 9 = .ok (.iconst 0, 1) := by decide +kernel
theorem dX3_empty_10 : decode cX3_empty 10 = .ok (.invokestatic 29, 3) := by decide +kernel
theorem dX3_empty_13 : decode cX3_empty 13 = .ok (.return_, 1) := by decide +kernel
theorem dX3_remember_0 : decode cX3_remember 0 = .ok (.aload_n 0, 1) := by decide +kernel
theorem dX3_remember_1 : decode cX3_remember 1 = .ok (.getfield 35, 3) := by decide +kernel
theorem dX3_remember_4 : decode cX3_remember 4 = .ok (.ifCond .lt 27, 3) := by decide +kernel
theorem dX3_remember_7 : decode cX3_remember 7 = .ok (.aload_n 0, 1) := by decide +kernel
theorem dX3_remember_8 : decode cX3_remember 8 = .ok (.getfield 35, 3) := by decide +kernel
theorem dX3_remember_11 : decode cX3_remember 11 = .ok (.aload_n 0, 1) := by decide +kernel
theorem dX3_remember_12 : decode cX3_remember 12 = .ok (.getfield 11, 3) := by decide +kernel
theorem dX3_remember_15 : decode cX3_remember 15 = .ok (.arraylength, 1) := by decide +kernel
theorem dX3_remember_16 : decode cX3_remember 16 = .ok (.if_icmp .ge 15, 3) := by decide +kernel
theorem dX3_remember_19 : decode cX3_remember 19 = .ok (.aload_n 0, 1) := by decide +kernel
theorem dX3_remember_20 : decode cX3_remember 20 = .ok (.getfield 11, 3) := by decide +kernel
theorem dX3_remember_23 : decode cX3_remember 23 = .ok (.aload_n 0, 1) := by decide +kernel
theorem dX3_remember_24 : decode cX3_remember 24 = .ok (.getfield 35, 3) := by decide +kernel
theorem dX3_remember_27 : decode cX3_remember 27 = .ok (.aaload, 1) := by decide +kernel
theorem dX3_remember_28 : decode cX3_remember 28 = .ok (.goto 4, 3) := by decide +kernel
theorem dX3_remember_31 : decode cX3_remember 31 = .ok (.aconst_null, 1) := by decide +kernel
theorem dX3_remember_32 : decode cX3_remember 32 = .ok (.astore_n 2, 1) := by decide +kernel
theorem dX3_remember_33 : decode cX3_remember 33 = .ok (.aload_n 2, 1) := by decide +kernel
theorem dX3_remember_34 : decode cX3_remember 34 = .ok (.ifnull 48, 3) := by decide +kernel
theorem dX3_remember_37 : decode cX3_remember 37 = .ok (.aload_n 2, 1) := by decide +kernel
theorem dX3_remember_38 : decode cX3_remember 38 = .ok (.aload_n 1, 1) := by decide +kernel
theorem dX3_remember_39 : decode cX3_remember 39 = .ok (.invokevirtual 38, 3) := by decide +kernel
theorem dX3_remember_42 : decode cX3_remember 42 = .ok (.aload_n 0, 1) := by decide +kernel
theorem dX3_remember_43 : decode cX3_remember 43 = .ok (.aload_n 0, 1) := by decide +kernel
theorem dX3_remember_44 : decode cX3_remember 44 = .ok (.getfield 35, 3) := by decide +kernel
theorem dX3_remember_47 : decode cX3_remember 47 = .ok (.iconst 1, 1) := by decide +kernel
theorem dX3_remember_48 : decode cX3_remember 48 = .ok (.iadd, 1) := by decide +kernel
theorem dX3_remember_49 : decode cX3_remember 49 = .ok (.bipush 30, 2) := by decide +kernel
theorem dX3_remember_51 : decode cX3_remember 51 = .ok (.if_icmp .ge 12, 3) := by decide +kernel
theorem dX3_remember_54 : decode cX3_remember 54 = .ok (.aload_n 0, 1) := by decide +kernel
theorem dX3_remember_55 : decode cX3_remember 55 = .ok (.getfield 35, 3) := by decide +kernel
theorem dX3_remember_58 : decode cX3_remember 58 = .ok (.iconst 1, 1) := by decide +kernel
theorem dX3_remember_59 : decode cX3_remember 59 = .ok (.iadd, 1) := by decide +kernel
theorem dX3_remember_60 : decode cX3_remember 60 = .ok (.goto 4, 3) := by decide +kernel
theorem dX3_remember_63 : decode cX3_remember 63 = .ok (.iconst 0, 1) := by decide +kernel
theorem dX3_remember_64 : decode cX3_remember 64 = .ok (.putfield 35, 3) := by decide +kernel
theorem dX3_remember_67 : decode cX3_remember 67 = .ok (.aload_n 0, 1) := by decide +kernel
theorem dX3_remember_68 : decode cX3_remember 68 = .ok (.aload_n 0, 1) := by decide +kernel
theorem dX3_remember_69 : decode cX3_remember 69 = .ok (.getfield 25, 3) := by decide +kernel
theorem dX3_remember_72 : decode cX3_remember 72 = .ok (.iconst 1, 1) := by decide +kernel
theorem dX3_remember_73 : decode cX3_remember 73 = .ok (.iadd, 1) := by decide +kernel
theorem dX3_remember_74 : decode cX3_remember 74 = .ok (.bipush 30, 2) := by decide +kernel
theorem dX3_remember_76 : decode cX3_remember 76 = .ok (.invokestatic 42, 3) := by decide +kernel
theorem dX3_remember_79 : decode cX3_remember 79 = .ok (.putfield 25, 3) := by decide +kernel
theorem dX3_remember_82 : decode cX3_remember 82 = .ok (.return_, 1) := by decide +kernel
theorem dX3_takeBack_0 : decode cX3_takeBack 0 = .ok (.aload_n 0, 1) := by decide +kernel
theorem dX3_takeBack_1 : decode cX3_takeBack 1 = .ok (.getfield 35, 3) := by decide +kernel
theorem dX3_takeBack_4 : decode cX3_takeBack 4 = .ok (.ifCond .le 12, 3) := by decide +kernel
theorem dX3_takeBack_7 : decode cX3_takeBack 7 = .ok (.aload_n 0, 1) := by decide +kernel
theorem dX3_takeBack_8 : decode cX3_takeBack 8 = .ok (.getfield 35, 3) := by decide +kernel
theorem dX3_takeBack_11 : decode cX3_takeBack 11 = .ok (.iconst 1, 1) := by decide +kernel
theorem dX3_takeBack_12 : decode cX3_takeBack 12 = .ok (.isub, 1) := by decide +kernel
theorem dX3_takeBack_13 : decode cX3_takeBack 13 = .ok (.goto 5, 3) := by decide +kernel
theorem dX3_takeBack_16 : decode cX3_takeBack 16 = .ok (.bipush 29, 2) := by decide +kernel
theorem dX3_takeBack_18 : decode cX3_takeBack 18 = .ok (.istore_n 2, 1) := by decide +kernel
theorem dX3_takeBack_19 : decode cX3_takeBack 19 = .ok (.aload_n 0, 1) := by decide +kernel
theorem dX3_takeBack_20 : decode cX3_takeBack 20 = .ok (.getfield 25, 3) := by decide +kernel
theorem dX3_takeBack_23 : decode cX3_takeBack 23 = .ok (.ifCond .le 25, 3) := by decide +kernel
theorem dX3_takeBack_26 : decode cX3_takeBack 26 = .ok (.iload_n 2, 1) := by decide +kernel
theorem dX3_takeBack_27 : decode cX3_takeBack 27 = .ok (.ifCond .lt 21, 3) := by decide +kernel
theorem dX3_takeBack_30 : decode cX3_takeBack 30 = .ok (.iload_n 2, 1) := by decide +kernel
theorem dX3_takeBack_31 : decode cX3_takeBack 31 = .ok (.aload_n 0, 1) := by decide +kernel
theorem dX3_takeBack_32 : decode cX3_takeBack 32 = .ok (.getfield 11, 3) := by decide +kernel
theorem dX3_takeBack_35 : decode cX3_takeBack 35 = .ok (.arraylength, 1) := by decide +kernel
theorem dX3_takeBack_36 : decode cX3_takeBack 36 = .ok (.if_icmp .ge 12, 3) := by decide +kernel
theorem dX3_takeBack_39 : decode cX3_takeBack 39 = .ok (.aload_n 0, 1) := by decide +kernel
theorem dX3_takeBack_40 : decode cX3_takeBack 40 = .ok (.getfield 11, 3) := by decide +kernel
theorem dX3_takeBack_43 : decode cX3_takeBack 43 = .ok (.iload_n 2, 1) := by decide +kernel
theorem dX3_takeBack_44 : decode cX3_takeBack 44 = .ok (.aaload, 1) := by decide +kernel
theorem dX3_takeBack_45 : decode cX3_takeBack 45 = .ok (.goto 4, 3) := by decide +kernel
theorem dX3_takeBack_48 : decode cX3_takeBack 48 = .ok (.aconst_null, 1) := by decide +kernel
theorem dX3_takeBack_49 : decode cX3_takeBack 49 = .ok (.astore_n 3, 1) := by decide +kernel
theorem dX3_takeBack_50 : decode cX3_takeBack 50 = .ok (.aload_n 3, 1) := by decide +kernel
theorem dX3_takeBack_51 : decode cX3_takeBack 51 = .ok (.ifnonnull 5, 3) := by decide +kernel
theorem dX3_takeBack_54 : decode cX3_takeBack 54 = .ok (.iconst 0, 1) := by decide +kernel
theorem dX3_takeBack_55 : decode cX3_takeBack 55 = .ok (.ireturn, 1) := by decide +kernel
theorem dX3_takeBack_56 : decode cX3_takeBack 56 = .ok (.aload_n 1, 1) := by decide +kernel
theorem dX3_takeBack_57 : decode cX3_takeBack 57 = .ok (.aload_n 3, 1) := by decide +kernel
theorem dX3_takeBack_58 : decode cX3_takeBack 58 = .ok (.invokevirtual 38, 3) := by decide +kernel
theorem dX3_takeBack_61 : decode cX3_takeBack 61 = .ok (.aload_n 0, 1) := by decide +kernel
theorem dX3_takeBack_62 : decode cX3_takeBack 62 = .ok (.iload_n 2, 1) := by decide +kernel
theorem dX3_takeBack_63 : decode cX3_takeBack 63 = .ok (.putfield 35, 3) := by decide +kernel
theorem dX3_takeBack_66 : decode cX3_takeBack 66 = .ok (.aload_n 0, 1) := by decide +kernel
theorem dX3_takeBack_67 : decode cX3_takeBack 67 = .ok (.dup, 1) := by decide +kernel
theorem dX3_takeBack_68 : decode cX3_takeBack 68 = .ok (.getfield 25, 3) := by decide +kernel
theorem dX3_takeBack_71 : decode cX3_takeBack 71 = .ok (.iconst 1, 1) := by decide +kernel
theorem dX3_takeBack_72 : decode cX3_takeBack 72 = .ok (.isub, 1) := by decide +kernel
theorem dX3_takeBack_73 : decode cX3_takeBack 73 = .ok (.putfield 25, 3) := by decide +kernel
theorem dX3_takeBack_76 : decode cX3_takeBack 76 = .ok (.iconst 1, 1) := by decide +kernel
theorem dX3_takeBack_77 : decode cX3_takeBack 77 = .ok (.ireturn, 1) := by decide +kernel
theorem dX3_slotAt_0 : decode cX3_slotAt 0 = .ok (.iload_n 1, 1) := by decide +kernel
theorem dX3_slotAt_1 : decode cX3_slotAt 1 = .ok (.ifCond .lt 21, 3) := by decide +kernel
theorem dX3_slotAt_4 : decode cX3_slotAt 4 = .ok (.iload_n 1, 1) := by decide +kernel
theorem dX3_slotAt_5 : decode cX3_slotAt 5 = .ok (.aload_n 0, 1) := by decide +kernel
theorem dX3_slotAt_6 : decode cX3_slotAt 6 = .ok (.getfield 17, 3) := by decide +kernel
theorem dX3_slotAt_9 : decode cX3_slotAt 9 = .ok (.arraylength, 1) := by decide +kernel
theorem dX3_slotAt_10 : decode cX3_slotAt 10 = .ok (.if_icmp .ge 12, 3) := by decide +kernel
theorem dX3_slotAt_13 : decode cX3_slotAt 13 = .ok (.aload_n 0, 1) := by decide +kernel
theorem dX3_slotAt_14 : decode cX3_slotAt 14 = .ok (.getfield 17, 3) := by decide +kernel
theorem dX3_slotAt_17 : decode cX3_slotAt 17 = .ok (.iload_n 1, 1) := by decide +kernel
theorem dX3_slotAt_18 : decode cX3_slotAt 18 = .ok (.aaload, 1) := by decide +kernel
theorem dX3_slotAt_19 : decode cX3_slotAt 19 = .ok (.goto 4, 3) := by decide +kernel
theorem dX3_slotAt_22 : decode cX3_slotAt 22 = .ok (.aconst_null, 1) := by decide +kernel
theorem dX3_slotAt_23 : decode cX3_slotAt 23 = .ok (.areturn, 1) := by decide +kernel
theorem dX3_keep_0 : decode cX3_keep 0 = .ok (.aload_n 0, 1) := by decide +kernel
theorem dX3_keep_1 : decode cX3_keep 1 = .ok (.iload_n 1, 1) := by decide +kernel
theorem dX3_keep_2 : decode cX3_keep 2 = .ok (.invokevirtual 48, 3) := by decide +kernel
theorem dX3_keep_5 : decode cX3_keep 5 = .ok (.astore_n 3, 1) := by decide +kernel
theorem dX3_keep_6 : decode cX3_keep 6 = .ok (.aload_n 3, 1) := by decide +kernel
theorem dX3_keep_7 : decode cX3_keep 7 = .ok (.ifnonnull 5, 3) := by decide +kernel
theorem dX3_keep_10 : decode cX3_keep 10 = .ok (.iconst 0, 1) := by decide +kernel
theorem dX3_keep_11 : decode cX3_keep 11 = .ok (.ireturn, 1) := by decide +kernel
theorem dX3_keep_12 : decode cX3_keep 12 = .ok (.aload_n 3, 1) := by decide +kernel
theorem dX3_keep_13 : decode cX3_keep 13 = .ok (.aload_n 2, 1) := by decide +kernel
theorem dX3_keep_14 : decode cX3_keep 14 = .ok (.invokevirtual 38, 3) := by decide +kernel
theorem dX3_keep_17 : decode cX3_keep 17 = .ok (.aload_n 0, 1) := by decide +kernel
theorem dX3_keep_18 : decode cX3_keep 18 = .ok (.getfield 20, 3) := by decide +kernel
theorem dX3_keep_21 : decode cX3_keep 21 = .ok (.iload_n 1, 1) := by decide +kernel
theorem dX3_keep_22 : decode cX3_keep 22 = .ok (.iconst 1, 1) := by decide +kernel
theorem dX3_keep_23 : decode cX3_keep 23 = .ok (.invokestatic 52, 3) := by decide +kernel
theorem dX3_keep_26 : decode cX3_keep 26 = .ok (.iconst 1, 1) := by decide +kernel
theorem dX3_keep_27 : decode cX3_keep 27 = .ok (.ireturn, 1) := by decide +kernel
theorem dX3_goOnFrom_0 : decode cX3_goOnFrom 0 = .ok (.aload_n 0, 1) := by decide +kernel
theorem dX3_goOnFrom_1 : decode cX3_goOnFrom 1 = .ok (.iload_n 1, 1) := by decide +kernel
theorem dX3_goOnFrom_2 : decode cX3_goOnFrom 2 = .ok (.invokevirtual 48, 3) := by decide +kernel
theorem dX3_goOnFrom_5 : decode cX3_goOnFrom 5 = .ok (.astore_n 3, 1) := by decide +kernel
theorem dX3_goOnFrom_6 : decode cX3_goOnFrom 6 = .ok (.aload_n 3, 1) := by decide +kernel
theorem dX3_goOnFrom_7 : decode cX3_goOnFrom 7 = .ok (.ifnull 14, 3) := by decide +kernel
theorem dX3_goOnFrom_10 : decode cX3_goOnFrom 10 = .ok (.aload_n 0, 1) := by decide +kernel
theorem dX3_goOnFrom_11 : decode cX3_goOnFrom 11 = .ok (.getfield 20, 3) := by decide +kernel
theorem dX3_goOnFrom_14 : decode cX3_goOnFrom 14 = .ok (.iload_n 1, 1) := by decide +kernel
theorem dX3_goOnFrom_15 : decode cX3_goOnFrom 15 = .ok (.invokestatic 56, 3) := by decide +kernel
theorem dX3_goOnFrom_18 : decode cX3_goOnFrom 18 = .ok (.ifCond .ne 5, 3) := by decide +kernel
theorem dX3_goOnFrom_21 : decode cX3_goOnFrom 21 = .ok (.iconst 0, 1) := by decide +kernel
theorem dX3_goOnFrom_22 : decode cX3_goOnFrom 22 = .ok (.ireturn, 1) := by decide +kernel
theorem dX3_goOnFrom_23 : decode cX3_goOnFrom 23 = .ok (.aload_n 2, 1) := by decide +kernel
theorem dX3_goOnFrom_24 : decode cX3_goOnFrom 24 = .ok (.aload_n 3, 1) := by decide +kernel
theorem dX3_goOnFrom_25 : decode cX3_goOnFrom 25 = .ok (.invokevirtual 38, 3) := by decide +kernel
theorem dX3_goOnFrom_28 : decode cX3_goOnFrom 28 = .ok (.aload_n 0, 1) := by decide +kernel
theorem dX3_goOnFrom_29 : decode cX3_goOnFrom 29 = .ok (.iconst 0, 1) := by decide +kernel
theorem dX3_goOnFrom_30 : decode cX3_goOnFrom 30 = .ok (.putfield 25, 3) := by decide +kernel
theorem dX3_goOnFrom_33 : decode cX3_goOnFrom 33 = .ok (.iconst 1, 1) := by decide +kernel
theorem dX3_goOnFrom_34 : decode cX3_goOnFrom 34 = .ok (.ireturn, 1) := by decide +kernel
theorem dX3_countHeld_0 : decode cX3_countHeld 0 = .ok (.iconst 0, 1) := by decide +kernel
theorem dX3_countHeld_1 : decode cX3_countHeld 1 = .ok (.istore_n 1, 1) := by decide +kernel
theorem dX3_countHeld_2 : decode cX3_countHeld 2 = .ok (.iconst 0, 1) := by decide +kernel
theorem dX3_countHeld_3 : decode cX3_countHeld 3 = .ok (.istore_n 2, 1) := by decide +kernel
theorem dX3_countHeld_4 : decode cX3_countHeld 4 = .ok (.iload_n 2, 1) := by decide +kernel
theorem dX3_countHeld_5 : decode cX3_countHeld 5 = .ok (.iconst 3, 1) := by decide +kernel
theorem dX3_countHeld_6 : decode cX3_countHeld 6 = .ok (.if_icmp .ge 20, 3) := by decide +kernel
theorem dX3_countHeld_9 : decode cX3_countHeld 9 = .ok (.iload_n 1, 1) := by decide +kernel
theorem dX3_countHeld_10 : decode cX3_countHeld 10 = .ok (.aload_n 0, 1) := by decide +kernel
theorem dX3_countHeld_11 : decode cX3_countHeld 11 = .ok (.getfield 20, 3) := by decide +kernel
theorem dX3_countHeld_14 : decode cX3_countHeld 14 = .ok (.iload_n 2, 1) := by decide +kernel
theorem dX3_countHeld_15 : decode cX3_countHeld 15 = .ok (.invokestatic 56, 3) := by decide +kernel
theorem dX3_countHeld_18 : decode cX3_countHeld 18 = .ok (.iadd, 1) := by decide +kernel
theorem dX3_countHeld_19 : decode cX3_countHeld 19 = .ok (.istore_n 1, 1) := by decide +kernel
theorem dX3_countHeld_20 : decode cX3_countHeld 20 = .ok (.iinc 2 1, 3) := by decide +kernel
theorem dX3_countHeld_23 : decode cX3_countHeld 23 = .ok (.goto (-19), 3) := by decide +kernel
theorem dX3_countHeld_26 : decode cX3_countHeld 26 = .ok (.iload_n 1, 1) := by decide +kernel
theorem dX3_countHeld_27 : decode cX3_countHeld 27 = .ok (.ireturn, 1) := by decide +kernel
theorem dX4_init_0 : decode cX4_init 0 = .ok (.aload_n 0, 1) := by decide +kernel
theorem dX4_init_1 : decode cX4_init 1 = .ok (.invokespecial 3, 3) := by decide +kernel
theorem dX4_init_4 : decode cX4_init 4 = .ok (.aload_n 0, 1) := by decide +kernel
theorem dX4_init_5 : decode cX4_init 5 = .ok (.sipush 4032, 3) := by decide +kernel
theorem dX4_init_8 : decode cX4_init 8 = .ok (.newarray .int, 2) := by decide +kernel
theorem dX4_init_10 : decode cX4_init 10 = .ok (.putfield 9, 3) := by decide +kernel
theorem dX4_init_13 : decode cX4_init 13 = .ok (.aload_n 0, 1) := by decide +kernel
theorem dX4_init_14 : decode cX4_init 14 = .ok (.sipush 196, 3) := by decide +kernel
theorem dX4_init_17 : decode cX4_init 17 = .ok (.newarray .int, 2) := by decide +kernel
theorem dX4_init_19 : decode cX4_init 19 = .ok (.putfield 15, 3) := by decide +kernel
theorem dX4_init_22 : decode cX4_init 22 = .ok (.return_, 1) := by decide +kernel
theorem dX4_choose_0 : decode cX4_choose 0 = .ok (.aload_n 0, 1) := by decide +kernel
theorem dX4_choose_1 : decode cX4_choose 1 = .ok (.getfield 9, 3) := by decide +kernel
theorem dX4_choose_4 : decode cX4_choose 4 = .ok (.iconst 0, 1) := by decide +kernel
theorem dX4_choose_5 : decode cX4_choose 5 = .ok (.invokestatic 18, 3) := by decide +kernel
theorem dX4_choose_8 : decode cX4_choose 8 = .ok (.iconst 0, 1) := by decide +kernel
theorem dX4_choose_9 : decode cX4_choose 9 = .ok (.istore_n 3, 1) := by decide +kernel
theorem dX4_choose_10 : decode cX4_choose 10 = .ok (.iload_n 3, 1) := by decide +kernel
theorem dX4_choose_11 : decode cX4_choose 11 = .ok (.aload_n 1, 1) := by decide +kernel
theorem dX4_choose_12 : decode cX4_choose 12 = .ok (.getfield 24, 3) := by decide +kernel
theorem dX4_choose_15 : decode cX4_choose 15 = .ok (.if_icmp .ge 37, 3) := by decide +kernel
theorem dX4_choose_18 : decode cX4_choose 18 = .ok (.aload_n 2, 1) := by decide +kernel
theorem dX4_choose_19 : decode cX4_choose 19 = .ok (.aload_n 1, 1) := by decide +kernel
theorem dX4_choose_20 : decode cX4_choose 20 = .ok (.iload_n 3, 1) := by decide +kernel
theorem dX4_choose_21 : decode cX4_choose 21 = .ok (.invokevirtual 30, 3) := by decide +kernel
theorem dX4_choose_24 : decode cX4_choose 24 = .ok (.aload_n 2, 1) := by decide +kernel
theorem dX4_choose_25 : decode cX4_choose 25 = .ok (.aload_n 1, 1) := by decide +kernel
theorem dX4_choose_26 : decode cX4_choose 26 = .ok (.iload_n 3, 1) := by decide +kernel
theorem dX4_choose_27 : decode cX4_choose 27 = .ok (.invokevirtual 36, 3) := by decide +kernel
theorem dX4_choose_30 : decode cX4_choose 30 = .ok (.aload_n 0, 1) := by decide +kernel
theorem dX4_choose_31 : decode cX4_choose 31 = .ok (.aload_n 1, 1) := by decide +kernel
theorem dX4_choose_32 : decode cX4_choose 32 = .ok (.aload_n 2, 1) := by decide +kernel
theorem dX4_choose_33 : decode cX4_choose 33 = .ok (.iload_n 3, 1) := by decide +kernel
theorem dX4_choose_34 : decode cX4_choose 34 = .ok (.iconst 0, 1) := by decide +kernel
theorem dX4_choose_35 : decode cX4_choose 35 = .ok (.invokevirtual 39, 3) := by decide +kernel
theorem dX4_choose_38 : decode cX4_choose 38 = .ok (.aload_n 0, 1) := by decide +kernel
theorem dX4_choose_39 : decode cX4_choose 39 = .ok (.aload_n 1, 1) := by decide +kernel
theorem dX4_choose_40 : decode cX4_choose 40 = .ok (.aload_n 2, 1) := by decide +kernel
theorem dX4_choose_41 : decode cX4_choose 41 = .ok (.iload_n 3, 1) := by decide +kernel
theorem dX4_choose_42 : decode cX4_choose 42 = .ok (.iconst 1, 1) := by decide +kernel
theorem dX4_choose_43 : decode cX4_choose 43 = .ok (.invokevirtual 39, 3) := by decide +kernel
theorem dX4_choose_46 : decode cX4_choose 46 = .ok (.iinc 3 1, 3) := by decide +kernel
theorem dX4_choose_49 : decode cX4_choose 49 = .ok (.goto (-39), 3) := by decide +kernel
theorem dX4_choose_52 : decode cX4_choose 52 = .ok (.iconst 0, 1) := by decide +kernel
theorem dX4_choose_53 : decode cX4_choose 53 = .ok (.istore_n 3, 1) := by decide +kernel
theorem dX4_choose_54 : decode cX4_choose 54 = .ok (.iload_n 3, 1) := by decide +kernel
theorem dX4_choose_55 : decode cX4_choose 55 = .ok (.iconst 2, 1) := by decide +kernel
theorem dX4_choose_56 : decode cX4_choose 56 = .ok (.aload_n 1, 1) := by decide +kernel
theorem dX4_choose_57 : decode cX4_choose 57 = .ok (.getfield 24, 3) := by decide +kernel
theorem dX4_choose_60 : decode cX4_choose 60 = .ok (.imul, 1) := by decide +kernel
theorem dX4_choose_61 : decode cX4_choose 61 = .ok (.if_icmp .ge 47, 3) := by decide +kernel
theorem dX4_choose_64 : decode cX4_choose 64 = .ok (.iconst 0, 1) := by decide +kernel
theorem dX4_choose_65 : decode cX4_choose 65 = .ok (.istore 4, 2) := by decide +kernel
theorem dX4_choose_67 : decode cX4_choose 67 = .ok (.iload 4, 2) := by decide +kernel
theorem dX4_choose_69 : decode cX4_choose 69 = .ok (.iload_n 3, 1) := by decide +kernel
theorem dX4_choose_70 : decode cX4_choose 70 = .ok (.if_icmp .ge 32, 3) := by decide +kernel
theorem dX4_choose_73 : decode cX4_choose 73 = .ok (.aload_n 0, 1) := by decide +kernel
theorem dX4_choose_74 : decode cX4_choose 74 = .ok (.getfield 15, 3) := by decide +kernel
theorem dX4_choose_77 : decode cX4_choose 77 = .ok (.iload_n 3, 1) := by decide +kernel
theorem dX4_choose_78 : decode cX4_choose 78 = .ok (.iconst 2, 1) := by decide +kernel
theorem dX4_choose_79 : decode cX4_choose 79 = .ok (.imul, 1) := by decide +kernel
theorem dX4_choose_80 : decode cX4_choose 80 = .ok (.bipush 7, 2) := by decide +kernel
theorem dX4_choose_82 : decode cX4_choose 82 = .ok (.imul, 1) := by decide +kernel
theorem dX4_choose_83 : decode cX4_choose 83 = .ok (.iload 4, 2) := by decide +kernel
theorem dX4_choose_85 : decode cX4_choose 85 = .ok (.iadd, 1) := by decide +kernel
theorem dX4_choose_86 : decode cX4_choose 86 = .ok (.aload_n 0, 1) := by decide +kernel
theorem dX4_choose_87 : decode cX4_choose 87 = .ok (.iload_n 3, 1) := by decide +kernel
theorem dX4_choose_88 : decode cX4_choose 88 = .ok (.iload 4, 2) := by decide +kernel
theorem dX4_choose_90 : decode cX4_choose 90 = .ok (.invokevirtual 43, 3) := by decide +kernel
theorem dX4_choose_93 : decode cX4_choose 93 = .ok (.invokestatic 47, 3) := by decide +kernel
theorem dX4_choose_96 : decode cX4_choose 96 = .ok (.iinc 4 1, 3) := by decide +kernel
theorem dX4_choose_99 : decode cX4_choose 99 = .ok (.goto (-32), 3) := by decide +kernel
theorem dX4_choose_102 : decode cX4_choose 102 = .ok (.iinc 3 1, 3) := by decide +kernel
theorem dX4_choose_105 : decode cX4_choose 105 = .ok (.goto (-51), 3) := by decide +kernel
theorem dX4_choose_108 : decode cX4_choose 108 = .ok (.aload_n 0, 1) := by decide +kernel
theorem dX4_choose_109 : decode cX4_choose 109 = .ok (.ldc 51, 2) := by decide +kernel
theorem dX4_choose_111 : decode cX4_choose 111 = .ok (.putfield 52, 3) := by decide +kernel
theorem dX4_choose_114 : decode cX4_choose 114 = .ok (.iconst 0, 1) := by decide +kernel
theorem dX4_choose_115 : decode cX4_choose 115 = .ok (.istore_n 3, 1) := by decide +kernel
theorem dX4_choose_116 : decode cX4_choose 116 = .ok (.iload_n 3, 1) := by decide +kernel
theorem dX4_choose_117 : decode cX4_choose 117 = .ok (.sipush 128, 3) := by decide +kernel
theorem dX4_choose_120 : decode cX4_choose 120 = .ok (.if_icmp .ge 50, 3) := by decide +kernel
theorem dX4_choose_123 : decode cX4_choose 123 = .ok (.iload_n 3, 1) := by decide +kernel
theorem dX4_choose_124 : decode cX4_choose 124 = .ok (.iconst 1, 1) := by decide +kernel
theorem dX4_choose_125 : decode cX4_choose 125 = .ok (.aload_n 1, 1) := by decide +kernel
theorem dX4_choose_126 : decode cX4_choose 126 = .ok (.getfield 24, 3) := by decide +kernel
theorem dX4_choose_129 : decode cX4_choose 129 = .ok (.ishl, 1) := by decide +kernel
theorem dX4_choose_130 : decode cX4_choose 130 = .ok (.if_icmp .ge 40, 3) := by decide +kernel
theorem dX4_choose_133 : decode cX4_choose 133 = .ok (.aload_n 0, 1) := by decide +kernel
theorem dX4_choose_134 : decode cX4_choose 134 = .ok (.aload_n 1, 1) := by decide +kernel
theorem dX4_choose_135 : decode cX4_choose 135 = .ok (.getfield 24, 3) := by decide +kernel
theorem dX4_choose_138 : decode cX4_choose 138 = .ok (.iload_n 3, 1) := by decide +kernel
theorem dX4_choose_139 : decode cX4_choose 139 = .ok (.invokevirtual 55, 3) := by decide +kernel
theorem dX4_choose_142 : decode cX4_choose 142 = .ok (.istore 4, 2) := by decide +kernel
theorem dX4_choose_144 : decode cX4_choose 144 = .ok (.iload 4, 2) := by decide +kernel
theorem dX4_choose_146 : decode cX4_choose 146 = .ok (.aload_n 0, 1) := by decide +kernel
theorem dX4_choose_147 : decode cX4_choose 147 = .ok (.getfield 52, 3) := by decide +kernel
theorem dX4_choose_150 : decode cX4_choose 150 = .ok (.if_icmp .ge 14, 3) := by decide +kernel
theorem dX4_choose_153 : decode cX4_choose 153 = .ok (.aload_n 0, 1) := by decide +kernel
theorem dX4_choose_154 : decode cX4_choose 154 = .ok (.iload 4, 2) := by decide +kernel
theorem dX4_choose_156 : decode cX4_choose 156 = .ok (.putfield 52, 3) := by decide +kernel
theorem dX4_choose_159 : decode cX4_choose 159 = .ok (.aload_n 0, 1) := by decide +kernel
theorem dX4_choose_160 : decode cX4_choose 160 = .ok (.iload_n 3, 1) := by decide +kernel
theorem dX4_choose_161 : decode cX4_choose 161 = .ok (.putfield 58, 3) := by decide +kernel
theorem dX4_choose_164 : decode cX4_choose 164 = .ok (.iinc 3 1, 3) := by decide +kernel
theorem dX4_choose_167 : decode cX4_choose 167 = .ok (.goto (-51), 3) := by decide +kernel
theorem dX4_choose_170 : decode cX4_choose 170 = .ok (.return_, 1) := by decide +kernel
theorem dX4_walk_0 : decode cX4_walk 0 = .ok (.aload_n 1, 1) := by decide +kernel
theorem dX4_walk_1 : decode cX4_walk 1 = .ok (.getfield 61, 3) := by decide +kernel
theorem dX4_walk_4 : decode cX4_walk 4 = .ok (.iload_n 3, 1) := by decide +kernel
theorem dX4_walk_5 : decode cX4_walk 5 = .ok (.invokestatic 64, 3) := by decide +kernel
theorem dX4_walk_8 : decode cX4_walk 8 = .ok (.istore 5, 2) := by decide +kernel
theorem dX4_walk_10 : decode cX4_walk 10 = .ok (.aload_n 1, 1) := by decide +kernel
theorem dX4_walk_11 : decode cX4_walk 11 = .ok (.getfield 68, 3) := by decide +kernel
theorem dX4_walk_14 : decode cX4_walk 14 = .ok (.iload_n 3, 1) := by decide +kernel
theorem dX4_walk_15 : decode cX4_walk 15 = .ok (.invokestatic 64, 3) := by decide +kernel
theorem dX4_walk_18 : decode cX4_walk 18 = .ok (.istore 6, 2) := by decide +kernel
theorem dX4_walk_20 : decode cX4_walk 20 = .ok (.iconst 2, 1) := by decide +kernel
theorem dX4_walk_21 : decode cX4_walk 21 = .ok (.iload_n 3, 1) := by decide +kernel
theorem dX4_walk_22 : decode cX4_walk 22 = .ok (.imul, 1) := by decide +kernel
theorem dX4_walk_23 : decode cX4_walk 23 = .ok (.iload 4, 2) := by decide +kernel
theorem dX4_walk_25 : decode cX4_walk 25 = .ok (.iadd, 1) := by decide +kernel
theorem dX4_walk_26 : decode cX4_walk 26 = .ok (.sipush 288, 3) := by decide +kernel
theorem dX4_walk_29 : decode cX4_walk 29 = .ok (.imul, 1) := by decide +kernel
theorem dX4_walk_30 : decode cX4_walk 30 = .ok (.istore 7, 2) := by decide +kernel
theorem dX4_walk_32 : decode cX4_walk 32 = .ok (.iconst 0, 1) := by decide +kernel
theorem dX4_walk_33 : decode cX4_walk 33 = .ok (.istore 8, 2) := by decide +kernel
theorem dX4_walk_35 : decode cX4_walk 35 = .ok (.iload 8, 2) := by decide +kernel
theorem dX4_walk_37 : decode cX4_walk 37 = .ok (.aload_n 1, 1) := by decide +kernel
theorem dX4_walk_38 : decode cX4_walk 38 = .ok (.getfield 71, 3) := by decide +kernel
theorem dX4_walk_41 : decode cX4_walk 41 = .ok (.iload_n 3, 1) := by decide +kernel
theorem dX4_walk_42 : decode cX4_walk 42 = .ok (.invokestatic 64, 3) := by decide +kernel
theorem dX4_walk_45 : decode cX4_walk 45 = .ok (.if_icmp .ge 119, 3) := by decide +kernel
theorem dX4_walk_48 : decode cX4_walk 48 = .ok (.iload_n 3, 1) := by decide +kernel
theorem dX4_walk_49 : decode cX4_walk 49 = .ok (.bipush 6, 2) := by decide +kernel
theorem dX4_walk_51 : decode cX4_walk 51 = .ok (.imul, 1) := by decide +kernel
theorem dX4_walk_52 : decode cX4_walk 52 = .ok (.aload_n 2, 1) := by decide +kernel
theorem dX4_walk_53 : decode cX4_walk 53 = .ok (.getfield 74, 3) := by decide +kernel
theorem dX4_walk_56 : decode cX4_walk 56 = .ok (.iload 8, 2) := by decide +kernel
theorem dX4_walk_58 : decode cX4_walk 58 = .ok (.invokestatic 64, 3) := by decide +kernel
theorem dX4_walk_61 : decode cX4_walk 61 = .ok (.iadd, 1) := by decide +kernel
theorem dX4_walk_62 : decode cX4_walk 62 = .ok (.istore 9, 2) := by decide +kernel
theorem dX4_walk_64 : decode cX4_walk 64 = .ok (.aload_n 1, 1) := by decide +kernel
theorem dX4_walk_65 : decode cX4_walk 65 = .ok (.getfield 77, 3) := by decide +kernel
theorem dX4_walk_68 : decode cX4_walk 68 = .ok (.iload 9, 2) := by decide +kernel
theorem dX4_walk_70 : decode cX4_walk 70 = .ok (.invokestatic 64, 3) := by decide +kernel
theorem dX4_walk_73 : decode cX4_walk 73 = .ok (.istore 10, 2) := by decide +kernel
theorem dX4_walk_75 : decode cX4_walk 75 = .ok (.aload_n 1, 1) := by decide +kernel
theorem dX4_walk_76 : decode cX4_walk 76 = .ok (.getfield 80, 3) := by decide +kernel
theorem dX4_walk_79 : decode cX4_walk 79 = .ok (.iload 9, 2) := by decide +kernel
theorem dX4_walk_81 : decode cX4_walk 81 = .ok (.invokestatic 64, 3) := by decide +kernel
theorem dX4_walk_84 : decode cX4_walk 84 = .ok (.istore 11, 2) := by decide +kernel
theorem dX4_walk_86 : decode cX4_walk 86 = .ok (.aload_n 0, 1) := by decide +kernel
theorem dX4_walk_87 : decode cX4_walk 87 = .ok (.iload 7, 2) := by decide +kernel
theorem dX4_walk_89 : decode cX4_walk 89 = .ok (.iload 4, 2) := by decide +kernel
theorem dX4_walk_91 : decode cX4_walk 91 = .ok (.ifCond .ne 8, 3) := by decide +kernel
theorem dX4_walk_94 : decode cX4_walk 94 = .ok (.iload 6, 2) := by decide +kernel
theorem dX4_walk_96 : decode cX4_walk 96 = .ok (.goto 5, 3) := by decide +kernel
theorem dX4_walk_99 : decode cX4_walk 99 = .ok (.iload 11, 2) := by decide +kernel
theorem dX4_walk_101 : decode cX4_walk 101 = .ok (.iload 5, 2) := by decide +kernel
theorem dX4_walk_103 : decode cX4_walk 103 = .ok (.iload 10, 2) := by decide +kernel
theorem dX4_walk_105 : decode cX4_walk 105 = .ok (.invokestatic 83, 3) := by decide +kernel
theorem dX4_walk_108 : decode cX4_walk 108 = .ok (.iload 5, 2) := by decide +kernel
theorem dX4_walk_110 : decode cX4_walk 110 = .ok (.iload 10, 2) := by decide +kernel
theorem dX4_walk_112 : decode cX4_walk 112 = .ok (.invokestatic 88, 3) := by decide +kernel
theorem dX4_walk_115 : decode cX4_walk 115 = .ok (.invokevirtual 91, 3) := by decide +kernel
theorem dX4_walk_118 : decode cX4_walk 118 = .ok (.aload_n 0, 1) := by decide +kernel
theorem dX4_walk_119 : decode cX4_walk 119 = .ok (.iload 7, 2) := by decide +kernel
theorem dX4_walk_121 : decode cX4_walk 121 = .ok (.iload 4, 2) := by decide +kernel
theorem dX4_walk_123 : decode cX4_walk 123 = .ok (.ifCond .ne 8, 3) := by decide +kernel
theorem dX4_walk_126 : decode cX4_walk 126 = .ok (.iload 10, 2) := by decide +kernel
theorem dX4_walk_128 : decode cX4_walk 128 = .ok (.goto 5, 3) := by decide +kernel
theorem dX4_walk_131 : decode cX4_walk 131 = .ok (.iload 5, 2) := by decide +kernel
theorem dX4_walk_133 : decode cX4_walk 133 = .ok (.iload 6, 2) := by decide +kernel
theorem dX4_walk_135 : decode cX4_walk 135 = .ok (.iload 11, 2) := by decide +kernel
theorem dX4_walk_137 : decode cX4_walk 137 = .ok (.invokestatic 83, 3) := by decide +kernel
theorem dX4_walk_140 : decode cX4_walk 140 = .ok (.iload 6, 2) := by decide +kernel
theorem dX4_walk_142 : decode cX4_walk 142 = .ok (.iload 11, 2) := by decide +kernel
theorem dX4_walk_144 : decode cX4_walk 144 = .ok (.invokestatic 88, 3) := by decide +kernel
theorem dX4_walk_147 : decode cX4_walk 147 = .ok (.invokevirtual 95, 3) := by decide +kernel
theorem dX4_walk_150 : decode cX4_walk 150 = .ok (.iload 10, 2) := by decide +kernel
theorem dX4_walk_152 : decode cX4_walk 152 = .ok (.istore 5, 2) := by decide +kernel
theorem dX4_walk_154 : decode cX4_walk 154 = .ok (.iload 11, 2) := by decide +kernel
theorem dX4_walk_156 : decode cX4_walk 156 = .ok (.istore 6, 2) := by decide +kernel
theorem dX4_walk_158 : decode cX4_walk 158 = .ok (.iinc 8 1, 3) := by decide +kernel
theorem dX4_walk_161 : decode cX4_walk 161 = .ok (.goto (-126), 3) := by decide +kernel
theorem dX4_walk_164 : decode cX4_walk 164 = .ok (.return_, 1) := by decide +kernel
theorem dX4_layAlongX_0 : decode cX4_layAlongX 0 = .ok (.iload_n 3, 1) := by decide +kernel
theorem dX4_layAlongX_1 : decode cX4_layAlongX 1 = .ok (.istore 5, 2) := by decide +kernel
theorem dX4_layAlongX_3 : decode cX4_layAlongX 3 = .ok (.iload 5, 2) := by decide +kernel
theorem dX4_layAlongX_5 : decode cX4_layAlongX 5 = .ok (.iload 4, 2) := by decide +kernel
theorem dX4_layAlongX_7 : decode cX4_layAlongX 7 = .ok (.if_icmp .ge 47, 3) := by decide +kernel
theorem dX4_layAlongX_10 : decode cX4_layAlongX 10 = .ok (.iload 5, 2) := by decide +kernel
theorem dX4_layAlongX_12 : decode cX4_layAlongX 12 = .ok (.bipush 12, 2) := by decide +kernel
theorem dX4_layAlongX_14 : decode cX4_layAlongX 14 = .ok (.if_icmp .ge 40, 3) := by decide +kernel
theorem dX4_layAlongX_17 : decode cX4_layAlongX 17 = .ok (.iload_n 1, 1) := by decide +kernel
theorem dX4_layAlongX_18 : decode cX4_layAlongX 18 = .ok (.iload 5, 2) := by decide +kernel
theorem dX4_layAlongX_20 : decode cX4_layAlongX 20 = .ok (.iload_n 2, 1) := by decide +kernel
theorem dX4_layAlongX_21 : decode cX4_layAlongX 21 = .ok (.iconst 2, 1) := by decide +kernel
theorem dX4_layAlongX_22 : decode cX4_layAlongX 22 = .ok (.invokestatic 98, 3) := by decide +kernel
theorem dX4_layAlongX_25 : decode cX4_layAlongX 25 = .ok (.iadd, 1) := by decide +kernel
theorem dX4_layAlongX_26 : decode cX4_layAlongX 26 = .ok (.istore 6, 2) := by decide +kernel
theorem dX4_layAlongX_28 : decode cX4_layAlongX 28 = .ok (.aload_n 0, 1) := by decide +kernel
theorem dX4_layAlongX_29 : decode cX4_layAlongX 29 = .ok (.getfield 9, 3) := by decide +kernel
theorem dX4_layAlongX_32 : decode cX4_layAlongX 32 = .ok (.iload 6, 2) := by decide +kernel
theorem dX4_layAlongX_34 : decode cX4_layAlongX 34 = .ok (.aload_n 0, 1) := by decide +kernel
theorem dX4_layAlongX_35 : decode cX4_layAlongX 35 = .ok (.getfield 9, 3) := by decide +kernel
theorem dX4_layAlongX_38 : decode cX4_layAlongX 38 = .ok (.iload 6, 2) := by decide +kernel
theorem dX4_layAlongX_40 : decode cX4_layAlongX 40 = .ok (.invokestatic 64, 3) := by decide +kernel
theorem dX4_layAlongX_43 : decode cX4_layAlongX 43 = .ok (.iconst 1, 1) := by decide +kernel
theorem dX4_layAlongX_44 : decode cX4_layAlongX 44 = .ok (.iadd, 1) := by decide +kernel
theorem dX4_layAlongX_45 : decode cX4_layAlongX 45 = .ok (.invokestatic 47, 3) := by decide +kernel
theorem dX4_layAlongX_48 : decode cX4_layAlongX 48 = .ok (.iinc 5 1, 3) := by decide +kernel
theorem dX4_layAlongX_51 : decode cX4_layAlongX 51 = .ok (.goto (-48), 3) := by decide +kernel
theorem dX4_layAlongX_54 : decode cX4_layAlongX 54 = .ok (.return_, 1) := by decide +kernel
theorem dX4_layAlongY_0 : decode cX4_layAlongY 0 = .ok (.iload_n 3, 1) := by decide +kernel
theorem dX4_layAlongY_1 : decode cX4_layAlongY 1 = .ok (.istore 5, 2) := by decide +kernel
theorem dX4_layAlongY_3 : decode cX4_layAlongY 3 = .ok (.iload 5, 2) := by decide +kernel
theorem dX4_layAlongY_5 : decode cX4_layAlongY 5 = .ok (.iload 4, 2) := by decide +kernel
theorem dX4_layAlongY_7 : decode cX4_layAlongY 7 = .ok (.if_icmp .ge 47, 3) := by decide +kernel
theorem dX4_layAlongY_10 : decode cX4_layAlongY 10 = .ok (.iload 5, 2) := by decide +kernel
theorem dX4_layAlongY_12 : decode cX4_layAlongY 12 = .ok (.bipush 12, 2) := by decide +kernel
theorem dX4_layAlongY_14 : decode cX4_layAlongY 14 = .ok (.if_icmp .ge 40, 3) := by decide +kernel
theorem dX4_layAlongY_17 : decode cX4_layAlongY 17 = .ok (.iload_n 1, 1) := by decide +kernel
theorem dX4_layAlongY_18 : decode cX4_layAlongY 18 = .ok (.iload_n 2, 1) := by decide +kernel
theorem dX4_layAlongY_19 : decode cX4_layAlongY 19 = .ok (.iload 5, 2) := by decide +kernel
theorem dX4_layAlongY_21 : decode cX4_layAlongY 21 = .ok (.iconst 1, 1) := by decide +kernel
theorem dX4_layAlongY_22 : decode cX4_layAlongY 22 = .ok (.invokestatic 98, 3) := by decide +kernel
theorem dX4_layAlongY_25 : decode cX4_layAlongY 25 = .ok (.iadd, 1) := by decide +kernel
theorem dX4_layAlongY_26 : decode cX4_layAlongY 26 = .ok (.istore 6, 2) := by decide +kernel
theorem dX4_layAlongY_28 : decode cX4_layAlongY 28 = .ok (.aload_n 0, 1) := by decide +kernel
theorem dX4_layAlongY_29 : decode cX4_layAlongY 29 = .ok (.getfield 9, 3) := by decide +kernel
theorem dX4_layAlongY_32 : decode cX4_layAlongY 32 = .ok (.iload 6, 2) := by decide +kernel
theorem dX4_layAlongY_34 : decode cX4_layAlongY 34 = .ok (.aload_n 0, 1) := by decide +kernel
theorem dX4_layAlongY_35 : decode cX4_layAlongY 35 = .ok (.getfield 9, 3) := by decide +kernel
theorem dX4_layAlongY_38 : decode cX4_layAlongY 38 = .ok (.iload 6, 2) := by decide +kernel
theorem dX4_layAlongY_40 : decode cX4_layAlongY 40 = .ok (.invokestatic 64, 3) := by decide +kernel
theorem dX4_layAlongY_43 : decode cX4_layAlongY 43 = .ok (.iconst 1, 1) := by decide +kernel
theorem dX4_layAlongY_44 : decode cX4_layAlongY 44 = .ok (.iadd, 1) := by decide +kernel
theorem dX4_layAlongY_45 : decode cX4_layAlongY 45 = .ok (.invokestatic 47, 3) := by decide +kernel
theorem dX4_layAlongY_48 : decode cX4_layAlongY 48 = .ok (.iinc 5 1, 3) := by decide +kernel
theorem dX4_layAlongY_51 : decode cX4_layAlongY 51 = .ok (.goto (-48), 3) := by decide +kernel
theorem dX4_layAlongY_54 : decode cX4_layAlongY 54 = .ok (.return_, 1) := by decide +kernel
theorem dX4_countMeetings_0 : decode cX4_countMeetings 0 = .ok (.iconst 0, 1) := by decide +kernel
theorem dX4_countMeetings_1 : decode cX4_countMeetings 1 = .ok (.istore_n 3, 1) := by decide +kernel
theorem dX4_countMeetings_2 : decode cX4_countMeetings 2 = .ok (.iconst 0, 1) := by decide +kernel
theorem dX4_countMeetings_3 : decode cX4_countMeetings 3 = .ok (.istore 4, 2) := by decide +kernel
theorem dX4_countMeetings_5 : decode cX4_countMeetings 5 = .ok (.iload 4, 2) := by decide +kernel
theorem dX4_countMeetings_7 : decode cX4_countMeetings 7 = .ok (.sipush 288, 3) := by decide +kernel
theorem dX4_countMeetings_10 : decode cX4_countMeetings 10 = .ok (.if_icmp .ge 43, 3) := by decide +kernel
theorem dX4_countMeetings_13 : decode cX4_countMeetings 13 = .ok (.iload_n 3, 1) := by decide +kernel
theorem dX4_countMeetings_14 : decode cX4_countMeetings 14 = .ok (.aload_n 0, 1) := by decide +kernel
theorem dX4_countMeetings_15 : decode cX4_countMeetings 15 = .ok (.getfield 9, 3) := by decide +kernel
theorem dX4_countMeetings_18 : decode cX4_countMeetings 18 = .ok (.iload_n 1, 1) := by decide +kernel
theorem dX4_countMeetings_19 : decode cX4_countMeetings 19 = .ok (.sipush 288, 3) := by decide +kernel
theorem dX4_countMeetings_22 : decode cX4_countMeetings 22 = .ok (.imul, 1) := by decide +kernel
theorem dX4_countMeetings_23 : decode cX4_countMeetings 23 = .ok (.iload 4, 2) := by decide +kernel
theorem dX4_countMeetings_25 : decode cX4_countMeetings 25 = .ok (.iadd, 1) := by decide +kernel
theorem dX4_countMeetings_26 : decode cX4_countMeetings 26 = .ok (.invokestatic 64, 3) := by decide +kernel
theorem dX4_countMeetings_29 : decode cX4_countMeetings 29 = .ok (.aload_n 0, 1) := by decide +kernel
theorem dX4_countMeetings_30 : decode cX4_countMeetings 30 = .ok (.getfield 9, 3) := by decide +kernel
theorem dX4_countMeetings_33 : decode cX4_countMeetings 33 = .ok (.iload_n 2, 1) := by decide +kernel
theorem dX4_countMeetings_34 : decode cX4_countMeetings 34 = .ok (.sipush 288, 3) := by decide +kernel
theorem dX4_countMeetings_37 : decode cX4_countMeetings 37 = .ok (.imul, 1) := by decide +kernel
theorem dX4_countMeetings_38 : decode cX4_countMeetings 38 = .ok (.iload 4, 2) := by decide +kernel
theorem dX4_countMeetings_40 : decode cX4_countMeetings 40 = .ok (.iadd, 1) := by decide +kernel
theorem dX4_countMeetings_41 : decode cX4_countMeetings 41 = .ok (.invokestatic 64, 3) := by decide +kernel
theorem dX4_countMeetings_44 : decode cX4_countMeetings 44 = .ok (.imul, 1) := by decide +kernel
theorem dX4_countMeetings_45 : decode cX4_countMeetings 45 = .ok (.iadd, 1) := by decide +kernel
theorem dX4_countMeetings_46 : decode cX4_countMeetings 46 = .ok (.istore_n 3, 1) := by decide +kernel
theorem dX4_countMeetings_47 : decode cX4_countMeetings 47 = .ok (.iinc 4 1, 3) := by decide +kernel
theorem dX4_countMeetings_50 : decode cX4_countMeetings 50 = .ok (.goto (-45), 3) := by decide +kernel
theorem dX4_countMeetings_53 : decode cX4_countMeetings 53 = .ok (.iload_n 3, 1) := by decide +kernel
theorem dX4_countMeetings_54 : decode cX4_countMeetings 54 = .ok (.ireturn, 1) := by decide +kernel
theorem dX4_countAll_0 : decode cX4_countAll 0 = .ok (.iconst 0, 1) := by decide +kernel
theorem dX4_countAll_1 : decode cX4_countAll 1 = .ok (.istore_n 3, 1) := by decide +kernel
theorem dX4_countAll_2 : decode cX4_countAll 2 = .ok (.iconst 0, 1) := by decide +kernel
theorem dX4_countAll_3 : decode cX4_countAll 3 = .ok (.istore 4, 2) := by decide +kernel
theorem dX4_countAll_5 : decode cX4_countAll 5 = .ok (.iload 4, 2) := by decide +kernel
theorem dX4_countAll_7 : decode cX4_countAll 7 = .ok (.iload_n 1, 1) := by decide +kernel
theorem dX4_countAll_8 : decode cX4_countAll 8 = .ok (.if_icmp .ge 71, 3) := by decide +kernel
theorem dX4_countAll_11 : decode cX4_countAll 11 = .ok (.iconst 2, 1) := by decide +kernel
theorem dX4_countAll_12 : decode cX4_countAll 12 = .ok (.iload 4, 2) := by decide +kernel
theorem dX4_countAll_14 : decode cX4_countAll 14 = .ok (.imul, 1) := by decide +kernel
theorem dX4_countAll_15 : decode cX4_countAll 15 = .ok (.iload_n 2, 1) := by decide +kernel
theorem dX4_countAll_16 : decode cX4_countAll 16 = .ok (.iload 4, 2) := by decide +kernel
theorem dX4_countAll_18 : decode cX4_countAll 18 = .ok (.ishr, 1) := by decide +kernel
theorem dX4_countAll_19 : decode cX4_countAll 19 = .ok (.iconst 1, 1) := by decide +kernel
theorem dX4_countAll_20 : decode cX4_countAll 20 = .ok (.iand, 1) := by decide +kernel
theorem dX4_countAll_21 : decode cX4_countAll 21 = .ok (.iadd, 1) := by decide +kernel
theorem dX4_countAll_22 : decode cX4_countAll 22 = .ok (.istore 5, 2) := by decide +kernel
theorem dX4_countAll_24 : decode cX4_countAll 24 = .ok (.iconst 0, 1) := by decide +kernel
theorem dX4_countAll_25 : decode cX4_countAll 25 = .ok (.istore 6, 2) := by decide +kernel
theorem dX4_countAll_27 : decode cX4_countAll 27 = .ok (.iload 6, 2) := by decide +kernel
theorem dX4_countAll_29 : decode cX4_countAll 29 = .ok (.iload 4, 2) := by decide +kernel
theorem dX4_countAll_31 : decode cX4_countAll 31 = .ok (.if_icmp .ge 42, 3) := by decide +kernel
theorem dX4_countAll_34 : decode cX4_countAll 34 = .ok (.iconst 2, 1) := by decide +kernel
theorem dX4_countAll_35 : decode cX4_countAll 35 = .ok (.iload 6, 2) := by decide +kernel
theorem dX4_countAll_37 : decode cX4_countAll 37 = .ok (.imul, 1) := by decide +kernel
theorem dX4_countAll_38 : decode cX4_countAll 38 = .ok (.iload_n 2, 1) := by decide +kernel
theorem dX4_countAll_39 : decode cX4_countAll 39 = .ok (.iload 6, 2) := by decide +kernel
theorem dX4_countAll_41 : decode cX4_countAll 41 = .ok (.ishr, 1) := by decide +kernel
theorem dX4_countAll_42 : decode cX4_countAll 42 = .ok (.iconst 1, 1) := by decide +kernel
theorem dX4_countAll_43 : decode cX4_countAll 43 = .ok (.iand, 1) := by decide +kernel
theorem dX4_countAll_44 : decode cX4_countAll 44 = .ok (.iadd, 1) := by decide +kernel
theorem dX4_countAll_45 : decode cX4_countAll 45 = .ok (.istore 7, 2) := by decide +kernel
theorem dX4_countAll_47 : decode cX4_countAll 47 = .ok (.iload_n 3, 1) := by decide +kernel
theorem dX4_countAll_48 : decode cX4_countAll 48 = .ok (.aload_n 0, 1) := by decide +kernel
theorem dX4_countAll_49 : decode cX4_countAll 49 = .ok (.getfield 15, 3) := by decide +kernel
theorem dX4_countAll_52 : decode cX4_countAll 52 = .ok (.iload 5, 2) := by decide +kernel
theorem dX4_countAll_54 : decode cX4_countAll 54 = .ok (.iconst 2, 1) := by decide +kernel
theorem dX4_countAll_55 : decode cX4_countAll 55 = .ok (.imul, 1) := by decide +kernel
theorem dX4_countAll_56 : decode cX4_countAll 56 = .ok (.bipush 7, 2) := by decide +kernel
theorem dX4_countAll_58 : decode cX4_countAll 58 = .ok (.imul, 1) := by decide +kernel
theorem dX4_countAll_59 : decode cX4_countAll 59 = .ok (.iload 7, 2) := by decide +kernel
theorem dX4_countAll_61 : decode cX4_countAll 61 = .ok (.iadd, 1) := by decide +kernel
theorem dX4_countAll_62 : decode cX4_countAll 62 = .ok (.invokestatic 64, 3) := by decide +kernel
theorem dX4_countAll_65 : decode cX4_countAll 65 = .ok (.iadd, 1) := by decide +kernel
theorem dX4_countAll_66 : decode cX4_countAll 66 = .ok (.istore_n 3, 1) := by decide +kernel
theorem dX4_countAll_67 : decode cX4_countAll 67 = .ok (.iinc 6 1, 3) := by decide +kernel
theorem dX4_countAll_70 : decode cX4_countAll 70 = .ok (.goto (-43), 3) := by decide +kernel
theorem dX4_countAll_73 : decode cX4_countAll 73 = .ok (.iinc 4 1, 3) := by decide +kernel
theorem dX4_countAll_76 : decode cX4_countAll 76 = .ok (.goto (-71), 3) := by decide +kernel
theorem dX4_countAll_79 : decode cX4_countAll 79 = .ok (.iload_n 3, 1) := by decide +kernel
theorem dX4_countAll_80 : decode cX4_countAll 80 = .ok (.ireturn, 1) := by decide +kernel
theorem dX5_init_0 : decode cX5_init 0 = .ok (.aload_n 0, 1) := by decide +kernel
theorem dX5_init_1 : decode cX5_init 1 = .ok (.invokespecial 5, 3) := by decide +kernel
theorem dX5_init_4 : decode cX5_init 4 = .ok (.aload_n 0, 1) := by decide +kernel
theorem dX5_init_5 : decode cX5_init 5 = .ok (.new 11, 3) := by decide +kernel
theorem dX5_init_8 : decode cX5_init 8 = .ok (.dup, 1) := by decide +kernel
theorem dX5_init_9 : decode cX5_init 9 = .ok (.invokespecial 13, 3) := by decide +kernel
theorem dX5_init_12 : decode cX5_init 12 = .ok (.putfield 14, 3) := by decide +kernel
theorem dX5_init_15 : decode cX5_init 15 = .ok (.aload_n 0, 1) := by decide +kernel
theorem dX5_init_16 : decode cX5_init 16 = .ok (.new 18, 3) := by decide +kernel
theorem dX5_init_19 : decode cX5_init 19 = .ok (.dup, 1) := by decide +kernel
theorem dX5_init_20 : decode cX5_init 20 = .ok (.invokespecial 20, 3) := by decide +kernel
theorem dX5_init_23 : decode cX5_init 23 = .ok (.putfield 21, 3) := by decide +kernel
theorem dX5_init_26 : decode cX5_init 26 = .ok (.aload_n 0, 1) := by decide +kernel
theorem dX5_init_27 : decode cX5_init 27 = .ok (.sipush 400, 3) := by decide +kernel
theorem dX5_init_30 : decode cX5_init 30 = .ok (.newarray .int, 2) := by decide +kernel
theorem dX5_init_32 : decode cX5_init 32 = .ok (.putfield 25, 3) := by decide +kernel
theorem dX5_init_35 : decode cX5_init 35 = .ok (.aload_n 0, 1) := by decide +kernel
theorem dX5_init_36 : decode cX5_init 36 = .ok (.sipush 400, 3) := by decide +kernel
theorem dX5_init_39 : decode cX5_init 39 = .ok (.newarray .int, 2) := by decide +kernel
theorem dX5_init_41 : decode cX5_init 41 = .ok (.putfield 29, 3) := by decide +kernel
theorem dX5_init_44 : decode cX5_init 44 = .ok (.aload_n 0, 1) := by decide +kernel
theorem dX5_init_45 : decode cX5_init 45 = .ok (.sipush 400, 3) := by decide +kernel
theorem dX5_init_48 : decode cX5_init 48 = .ok (.newarray .int, 2) := by decide +kernel
theorem dX5_init_50 : decode cX5_init 50 = .ok (.putfield 32, 3) := by decide +kernel
theorem dX5_init_53 : decode cX5_init 53 = .ok (.aload_n 0, 1) := by decide +kernel
theorem dX5_init_54 : decode cX5_init 54 = .ok (.bipush 20, 2) := by decide +kernel
theorem dX5_init_56 : decode cX5_init 56 = .ok (.newarray .int, 2) := by decide +kernel
theorem dX5_init_58 : decode cX5_init 58 = .ok (.putfield 35, 3) := by decide +kernel
theorem dX5_init_61 : decode cX5_init 61 = .ok (.return_, 1) := by decide +kernel
theorem dX5_begin_0 : decode cX5_begin 0 = .ok (.aload_n 0, 1) := by decide +kernel
theorem dX5_begin_1 : decode cX5_begin 1 = .ok (.getfield 21, 3) := by decide +kernel
theorem dX5_begin_4 : decode cX5_begin 4 = .ok (.aload_n 1, 1) := by decide +kernel
theorem dX5_begin_5 : decode cX5_begin 5 = .ok (.iload_n 2, 1) := by decide +kernel
theorem dX5_begin_6 : decode cX5_begin 6 = .ok (.invokevirtual 38, 3) := by decide +kernel
theorem dX5_begin_9 : decode cX5_begin 9 = .ok (.aload_n 0, 1) := by decide +kernel
theorem dX5_begin_10 : decode cX5_begin 10 = .ok (.getfield 14, 3) := by decide +kernel
theorem dX5_begin_13 : decode cX5_begin 13 = .ok (.invokevirtual 42, 3) := by decide +kernel
theorem dX5_begin_16 : decode cX5_begin 16 = .ok (.aload_n 0, 1) := by decide +kernel
theorem dX5_begin_17 : decode cX5_begin 17 = .ok (.iconst 0, 1) := by decide +kernel
theorem dX5_begin_18 : decode cX5_begin 18 = .ok (.putfield 45, 3) := by decide +kernel
theorem dX5_begin_21 : decode cX5_begin 21 = .ok (.aload_n 0, 1) := by decide +kernel
theorem dX5_begin_22 : decode cX5_begin 22 = .ok (.iconst 0, 1) := by decide +kernel
theorem dX5_begin_23 : decode cX5_begin 23 = .ok (.putfield 49, 3) := by decide +kernel
theorem dX5_begin_26 : decode cX5_begin 26 = .ok (.aload_n 0, 1) := by decide +kernel
theorem dX5_begin_27 : decode cX5_begin 27 = .ok (.iconst 0, 1) := by decide +kernel
theorem dX5_begin_28 : decode cX5_begin 28 = .ok (.putfield 52, 3) := by decide +kernel
theorem dX5_begin_31 : decode cX5_begin 31 = .ok (.aload_n 0, 1) := by decide +kernel
theorem dX5_begin_32 : decode cX5_begin 32 = .ok (.iconst 0, 1) := by decide +kernel
theorem dX5_begin_33 : decode cX5_begin 33 = .ok (.putfield 55, 3) := by decide +kernel
theorem dX5_begin_36 : decode cX5_begin 36 = .ok (.aload_n 0, 1) := by decide +kernel
theorem dX5_begin_37 : decode cX5_begin 37 = .ok (.invokevirtual 58, 3) := by decide +kernel
theorem dX5_begin_40 : decode cX5_begin 40 = .ok (.return_, 1) := by decide +kernel
theorem dX5_readTells_0 : decode cX5_readTells 0 = .ok (.iconst 0, 1) := by decide +kernel
theorem dX5_readTells_1 : decode cX5_readTells 1 = .ok (.istore_n 1, 1) := by decide +kernel
theorem dX5_readTells_2 : decode cX5_readTells 2 = .ok (.iload_n 1, 1) := by decide +kernel
theorem dX5_readTells_3 : decode cX5_readTells 3 = .ok (.sipush 400, 3) := by decide +kernel
theorem dX5_readTells_6 : decode cX5_readTells 6 = .ok (.if_icmp .gt 256, 3) := by decide +kernel
theorem dX5_readTells_9 : decode cX5_readTells 9 = .ok (.aload_n 0, 1) := by decide +kernel
theorem dX5_readTells_10 : decode cX5_readTells 10 = .ok (.getfield 45, 3) := by decide +kernel
theorem dX5_readTells_13 : decode cX5_readTells 13 = .ok (.ifCond .ne 249, 3) := by decide +kernel
theorem dX5_readTells_16 : decode cX5_readTells 16 = .ok (.aload_n 0, 1) := by decide +kernel
theorem dX5_readTells_17 : decode cX5_readTells 17 = .ok (.getfield 61, 3) := by decide +kernel
theorem dX5_readTells_20 : decode cX5_readTells 20 = .ok (.ifCond .eq 242, 3) := by decide +kernel
theorem dX5_readTells_23 : decode cX5_readTells 23 = .ok (.aload_n 0, 1) := by decide +kernel
theorem dX5_readTells_24 : decode cX5_readTells 24 = .ok (.getfield 61, 3) := by decide +kernel
theorem dX5_readTells_27 : decode cX5_readTells 27 = .ok (.tableswitch 214 128 135 #[45, 84, 91, 120, 142, 149, 156, 188], 45) := by decide +kernel
theorem dX5_readTells_72 : decode cX5_readTells 72 = .ok (.aload_n 0, 1) := by decide +kernel
theorem dX5_readTells_73 : decode cX5_readTells 73 = .ok (.aload_n 0, 1) := by decide +kernel
theorem dX5_readTells_74 : decode cX5_readTells 74 = .ok (.getfield 61, 3) := by decide +kernel
theorem dX5_readTells_77 : decode cX5_readTells 77 = .ok (.invokevirtual 64, 3) := by decide +kernel
theorem dX5_readTells_80 : decode cX5_readTells 80 = .ok (.aload_n 0, 1) := by decide +kernel
theorem dX5_readTells_81 : decode cX5_readTells 81 = .ok (.getfield 14, 3) := by decide +kernel
theorem dX5_readTells_84 : decode cX5_readTells 84 = .ok (.aload_n 0, 1) := by decide +kernel
theorem dX5_readTells_85 : decode cX5_readTells 85 = .ok (.iconst 2, 1) := by decide +kernel
theorem dX5_readTells_86 : decode cX5_readTells 86 = .ok (.bipush 12, 2) := by decide +kernel
theorem dX5_readTells_88 : decode cX5_readTells 88 = .ok (.invokevirtual 68, 3) := by decide +kernel
theorem dX5_readTells_91 : decode cX5_readTells 91 = .ok (.putfield 72, 3) := by decide +kernel
theorem dX5_readTells_94 : decode cX5_readTells 94 = .ok (.aload_n 0, 1) := by decide +kernel
theorem dX5_readTells_95 : decode cX5_readTells 95 = .ok (.getfield 14, 3) := by decide +kernel
theorem dX5_readTells_98 : decode cX5_readTells 98 = .ok (.aload_n 0, 1) := by decide +kernel
theorem dX5_readTells_99 : decode cX5_readTells 99 = .ok (.iconst 2, 1) := by decide +kernel
theorem dX5_readTells_100 : decode cX5_readTells 100 = .ok (.bipush 12, 2) := by decide +kernel
theorem dX5_readTells_102 : decode cX5_readTells 102 = .ok (.invokevirtual 68, 3) := by decide +kernel
theorem dX5_readTells_105 : decode cX5_readTells 105 = .ok (.putfield 75, 3) := by decide +kernel
theorem dX5_readTells_108 : decode cX5_readTells 108 = .ok (.goto 142, 3) := by decide +kernel
theorem dX5_readTells_111 : decode cX5_readTells 111 = .ok (.aload_n 0, 1) := by decide +kernel
theorem dX5_readTells_112 : decode cX5_readTells 112 = .ok (.invokevirtual 78, 3) := by decide +kernel
theorem dX5_readTells_115 : decode cX5_readTells 115 = .ok (.goto 135, 3) := by decide +kernel
theorem dX5_readTells_118 : decode cX5_readTells 118 = .ok (.aload_n 0, 1) := by decide +kernel
theorem dX5_readTells_119 : decode cX5_readTells 119 = .ok (.aload_n 0, 1) := by decide +kernel
theorem dX5_readTells_120 : decode cX5_readTells 120 = .ok (.getfield 61, 3) := by decide +kernel
theorem dX5_readTells_123 : decode cX5_readTells 123 = .ok (.invokevirtual 64, 3) := by decide +kernel
theorem dX5_readTells_126 : decode cX5_readTells 126 = .ok (.aload_n 0, 1) := by decide +kernel
theorem dX5_readTells_127 : decode cX5_readTells 127 = .ok (.getfield 14, 3) := by decide +kernel
theorem dX5_readTells_130 : decode cX5_readTells 130 = .ok (.getfield 81, 3) := by decide +kernel
theorem dX5_readTells_133 : decode cX5_readTells 133 = .ok (.aload_n 0, 1) := by decide +kernel
theorem dX5_readTells_134 : decode cX5_readTells 134 = .ok (.invokevirtual 84, 3) := by decide +kernel
theorem dX5_readTells_137 : decode cX5_readTells 137 = .ok (.aload_n 0, 1) := by decide +kernel
theorem dX5_readTells_138 : decode cX5_readTells 138 = .ok (.invokevirtual 88, 3) := by decide +kernel
theorem dX5_readTells_141 : decode cX5_readTells 141 = .ok (.invokestatic 91, 3) := by decide +kernel
theorem dX5_readTells_144 : decode cX5_readTells 144 = .ok (.goto 106, 3) := by decide +kernel
theorem dX5_readTells_147 : decode cX5_readTells 147 = .ok (.aload_n 0, 1) := by decide +kernel
theorem dX5_readTells_148 : decode cX5_readTells 148 = .ok (.aload_n 0, 1) := by decide +kernel
theorem dX5_readTells_149 : decode cX5_readTells 149 = .ok (.getfield 61, 3) := by decide +kernel
theorem dX5_readTells_152 : decode cX5_readTells 152 = .ok (.invokevirtual 64, 3) := by decide +kernel
theorem dX5_readTells_155 : decode cX5_readTells 155 = .ok (.aload_n 0, 1) := by decide +kernel
theorem dX5_readTells_156 : decode cX5_readTells 156 = .ok (.getfield 14, 3) := by decide +kernel
theorem dX5_readTells_159 : decode cX5_readTells 159 = .ok (.aload_n 0, 1) := by decide +kernel
theorem dX5_readTells_160 : decode cX5_readTells 160 = .ok (.invokevirtual 88, 3) := by decide +kernel
theorem dX5_readTells_163 : decode cX5_readTells 163 = .ok (.putfield 95, 3) := by decide +kernel
theorem dX5_readTells_166 : decode cX5_readTells 166 = .ok (.goto 84, 3) := by decide +kernel
theorem dX5_readTells_169 : decode cX5_readTells 169 = .ok (.aload_n 0, 1) := by decide +kernel
theorem dX5_readTells_170 : decode cX5_readTells 170 = .ok (.invokevirtual 98, 3) := by decide +kernel
theorem dX5_readTells_173 : decode cX5_readTells 173 = .ok (.goto 77, 3) := by decide +kernel
theorem dX5_readTells_176 : decode cX5_readTells 176 = .ok (.aload_n 0, 1) := by decide +kernel
theorem dX5_readTells_177 : decode cX5_readTells 177 = .ok (.invokevirtual 101, 3) := by decide +kernel
theorem dX5_readTells_180 : decode cX5_readTells 180 = .ok (.goto 70, 3) := by decide +kernel
theorem dX5_readTells_183 : decode cX5_readTells 183 = .ok (.aload_n 0, 1) := by decide +kernel
theorem dX5_readTells_184 : decode cX5_readTells 184 = .ok (.aload_n 0, 1) := by decide +kernel
theorem dX5_readTells_185 : decode cX5_readTells 185 = .ok (.getfield 61, 3) := by decide +kernel
theorem dX5_readTells_188 : decode cX5_readTells 188 = .ok (.invokevirtual 64, 3) := by decide +kernel
theorem dX5_readTells_191 : decode cX5_readTells 191 = .ok (.aload_n 0, 1) := by decide +kernel
theorem dX5_readTells_192 : decode cX5_readTells 192 = .ok (.getfield 14, 3) := by decide +kernel
theorem dX5_readTells_195 : decode cX5_readTells 195 = .ok (.getfield 104, 3) := by decide +kernel
theorem dX5_readTells_198 : decode cX5_readTells 198 = .ok (.aload_n 0, 1) := by decide +kernel
theorem dX5_readTells_199 : decode cX5_readTells 199 = .ok (.invokevirtual 84, 3) := by decide +kernel
theorem dX5_readTells_202 : decode cX5_readTells 202 = .ok (.aload_n 0, 1) := by decide +kernel
theorem dX5_readTells_203 : decode cX5_readTells 203 = .ok (.iconst 0, 1) := by decide +kernel
theorem dX5_readTells_204 : decode cX5_readTells 204 = .ok (.bipush 9, 2) := by decide +kernel
theorem dX5_readTells_206 : decode cX5_readTells 206 = .ok (.invokevirtual 68, 3) := by decide +kernel
theorem dX5_readTells_209 : decode cX5_readTells 209 = .ok (.invokestatic 91, 3) := by decide +kernel
theorem dX5_readTells_212 : decode cX5_readTells 212 = .ok (.goto 38, 3) := by decide +kernel
theorem dX5_readTells_215 : decode cX5_readTells 215 = .ok (.aload_n 0, 1) := by decide +kernel
theorem dX5_readTells_216 : decode cX5_readTells 216 = .ok (.aload_n 0, 1) := by decide +kernel
theorem dX5_readTells_217 : decode cX5_readTells 217 = .ok (.getfield 61, 3) := by decide +kernel
theorem dX5_readTells_220 : decode cX5_readTells 220 = .ok (.invokevirtual 64, 3) := by decide +kernel
theorem dX5_readTells_223 : decode cX5_readTells 223 = .ok (.aload_n 0, 1) := by decide +kernel
theorem dX5_readTells_224 : decode cX5_readTells 224 = .ok (.getfield 14, 3) := by decide +kernel
theorem dX5_readTells_227 : decode cX5_readTells 227 = .ok (.aload_n 0, 1) := by decide +kernel
theorem dX5_readTells_228 : decode cX5_readTells 228 = .ok (.iconst 0, 1) := by decide +kernel
theorem dX5_readTells_229 : decode cX5_readTells 229 = .ok (.sipush 9999, 3) := by decide +kernel
theorem dX5_readTells_232 : decode cX5_readTells 232 = .ok (.invokevirtual 68, 3) := by decide +kernel
theorem dX5_readTells_235 : decode cX5_readTells 235 = .ok (.putfield 107, 3) := by decide +kernel
theorem dX5_readTells_238 : decode cX5_readTells 238 = .ok (.goto 12, 3) := by decide +kernel
theorem dX5_readTells_241 : decode cX5_readTells 241 = .ok (.aload_n 0, 1) := by decide +kernel
theorem dX5_readTells_242 : decode cX5_readTells 242 = .ok (.iconst 1, 1) := by decide +kernel
theorem dX5_readTells_243 : decode cX5_readTells 243 = .ok (.aload_n 0, 1) := by decide +kernel
theorem dX5_readTells_244 : decode cX5_readTells 244 = .ok (.getfield 110, 3) := by decide +kernel
theorem dX5_readTells_247 : decode cX5_readTells 247 = .ok (.invokevirtual 113, 3) := by decide +kernel
theorem dX5_readTells_250 : decode cX5_readTells 250 = .ok (.aload_n 0, 1) := by decide +kernel
theorem dX5_readTells_251 : decode cX5_readTells 251 = .ok (.bipush 59, 2) := by decide +kernel
theorem dX5_readTells_253 : decode cX5_readTells 253 = .ok (.invokevirtual 64, 3) := by decide +kernel
theorem dX5_readTells_256 : decode cX5_readTells 256 = .ok (.iinc 1 1, 3) := by decide +kernel
theorem dX5_readTells_259 : decode cX5_readTells 259 = .ok (.goto (-257), 3) := by decide +kernel
theorem dX5_readTells_262 : decode cX5_readTells 262 = .ok (.return_, 1) := by decide +kernel
theorem dX5_finish_0 : decode cX5_finish 0 = .ok (.aload_n 0, 1) := by decide +kernel
theorem dX5_finish_1 : decode cX5_finish 1 = .ok (.getfield 45, 3) := by decide +kernel
theorem dX5_finish_4 : decode cX5_finish 4 = .ok (.ifCond .ne 22, 3) := by decide +kernel
theorem dX5_finish_7 : decode cX5_finish 7 = .ok (.aload_n 0, 1) := by decide +kernel
theorem dX5_finish_8 : decode cX5_finish 8 = .ok (.getfield 49, 3) := by decide +kernel
theorem dX5_finish_11 : decode cX5_finish 11 = .ok (.ifCond .eq 15, 3) := by decide +kernel
theorem dX5_finish_14 : decode cX5_finish 14 = .ok (.aload_n 0, 1) := by decide +kernel
theorem dX5_finish_15 : decode cX5_finish 15 = .ok (.aload_n 0, 1) := by decide +kernel
theorem dX5_finish_16 : decode cX5_finish 16 = .ok (.getfield 49, 3) := by decide +kernel
theorem dX5_finish_19 : decode cX5_finish 19 = .ok (.aload_n 0, 1) := by decide +kernel
theorem dX5_finish_20 : decode cX5_finish 20 = .ok (.getfield 117, 3) := by decide +kernel
theorem dX5_finish_23 : decode cX5_finish 23 = .ok (.invokevirtual 113, 3) := by decide +kernel
theorem dX5_finish_26 : decode cX5_finish 26 = .ok (.aload_n 0, 1) := by decide +kernel
theorem dX5_finish_27 : decode cX5_finish 27 = .ok (.getfield 45, 3) := by decide +kernel
theorem dX5_finish_30 : decode cX5_finish 30 = .ok (.ifCond .ne 7, 3) := by decide +kernel
theorem dX5_finish_33 : decode cX5_finish 33 = .ok (.aload_n 0, 1) := by decide +kernel
theorem dX5_finish_34 : decode cX5_finish 34 = .ok (.invokevirtual 120, 3) := by decide +kernel
theorem dX5_finish_37 : decode cX5_finish 37 = .ok (.aload_n 0, 1) := by decide +kernel
theorem dX5_finish_38 : decode cX5_finish 38 = .ok (.getfield 45, 3) := by decide +kernel
theorem dX5_finish_41 : decode cX5_finish 41 = .ok (.ifCond .ne 10, 3) := by decide +kernel
theorem dX5_finish_44 : decode cX5_finish 44 = .ok (.aload_n 0, 1) := by decide +kernel
theorem dX5_finish_45 : decode cX5_finish 45 = .ok (.getfield 14, 3) := by decide +kernel
theorem dX5_finish_48 : decode cX5_finish 48 = .ok (.invokevirtual 123, 3) := by decide +kernel
theorem dX5_finish_51 : decode cX5_finish 51 = .ok (.aload_n 0, 1) := by decide +kernel
theorem dX5_finish_52 : decode cX5_finish 52 = .ok (.getfield 45, 3) := by decide +kernel
theorem dX5_finish_55 : decode cX5_finish 55 = .ok (.ireturn, 1) := by decide +kernel
theorem dX5_findOutside_0 : decode cX5_findOutside 0 = .ok (.iconst 0, 1) := by decide +kernel
theorem dX5_findOutside_1 : decode cX5_findOutside 1 = .ok (.istore_n 1, 1) := by decide +kernel
theorem dX5_findOutside_2 : decode cX5_findOutside 2 = .ok (.iload_n 1, 1) := by decide +kernel
theorem dX5_findOutside_3 : decode cX5_findOutside 3 = .ok (.aload_n 0, 1) := by decide +kernel
theorem dX5_findOutside_4 : decode cX5_findOutside 4 = .ok (.getfield 52, 3) := by decide +kernel
theorem dX5_findOutside_7 : decode cX5_findOutside 7 = .ok (.if_icmp .ge 49, 3) := by decide +kernel
theorem dX5_findOutside_10 : decode cX5_findOutside 10 = .ok (.aload_n 0, 1) := by decide +kernel
theorem dX5_findOutside_11 : decode cX5_findOutside 11 = .ok (.getfield 14, 3) := by decide +kernel
theorem dX5_findOutside_14 : decode cX5_findOutside 14 = .ok (.aload_n 0, 1) := by decide +kernel
theorem dX5_findOutside_15 : decode cX5_findOutside 15 = .ok (.getfield 29, 3) := by decide +kernel
theorem dX5_findOutside_18 : decode cX5_findOutside 18 = .ok (.iload_n 1, 1) := by decide +kernel
theorem dX5_findOutside_19 : decode cX5_findOutside 19 = .ok (.invokestatic 126, 3) := by decide +kernel
theorem dX5_findOutside_22 : decode cX5_findOutside 22 = .ok (.aload_n 0, 1) := by decide +kernel
theorem dX5_findOutside_23 : decode cX5_findOutside 23 = .ok (.getfield 32, 3) := by decide +kernel
theorem dX5_findOutside_26 : decode cX5_findOutside 26 = .ok (.iload_n 1, 1) := by decide +kernel
theorem dX5_findOutside_27 : decode cX5_findOutside 27 = .ok (.invokestatic 126, 3) := by decide +kernel
theorem dX5_findOutside_30 : decode cX5_findOutside 30 = .ok (.invokevirtual 130, 3) := by decide +kernel
theorem dX5_findOutside_33 : decode cX5_findOutside 33 = .ok (.ifCond .ne 17, 3) := by decide +kernel
theorem dX5_findOutside_36 : decode cX5_findOutside 36 = .ok (.aload_n 0, 1) := by decide +kernel
theorem dX5_findOutside_37 : decode cX5_findOutside 37 = .ok (.bipush 6, 2) := by decide +kernel
theorem dX5_findOutside_39 : decode cX5_findOutside 39 = .ok (.aload_n 0, 1) := by decide +kernel
theorem dX5_findOutside_40 : decode cX5_findOutside 40 = .ok (.getfield 25, 3) := by decide +kernel
theorem dX5_findOutside_43 : decode cX5_findOutside 43 = .ok (.iload_n 1, 1) := by decide +kernel
theorem dX5_findOutside_44 : decode cX5_findOutside 44 = .ok (.invokestatic 126, 3) := by decide +kernel
theorem dX5_findOutside_47 : decode cX5_findOutside 47 = .ok (.invokevirtual 113, 3) := by decide +kernel
theorem dX5_findOutside_50 : decode cX5_findOutside 50 = .ok (.iinc 1 1, 3) := by decide +kernel
theorem dX5_findOutside_53 : decode cX5_findOutside 53 = .ok (.goto (-51), 3) := by decide +kernel
theorem dX5_findOutside_56 : decode cX5_findOutside 56 = .ok (.return_, 1) := by decide +kernel
theorem dX5_look_0 : decode cX5_look 0 = .ok (.aload_n 0, 1) := by decide +kernel
theorem dX5_look_1 : decode cX5_look 1 = .ok (.aload_n 0, 1) := by decide +kernel
theorem dX5_look_2 : decode cX5_look 2 = .ok (.getfield 21, 3) := by decide +kernel
theorem dX5_look_5 : decode cX5_look 5 = .ok (.getfield 134, 3) := by decide +kernel
theorem dX5_look_8 : decode cX5_look 8 = .ok (.aload_n 0, 1) := by decide +kernel
theorem dX5_look_9 : decode cX5_look 9 = .ok (.getfield 55, 3) := by decide +kernel
theorem dX5_look_12 : decode cX5_look 12 = .ok (.invokestatic 126, 3) := by decide +kernel
theorem dX5_look_15 : decode cX5_look 15 = .ok (.putfield 61, 3) := by decide +kernel
theorem dX5_look_18 : decode cX5_look 18 = .ok (.aload_n 0, 1) := by decide +kernel
theorem dX5_look_19 : decode cX5_look 19 = .ok (.aload_n 0, 1) := by decide +kernel
theorem dX5_look_20 : decode cX5_look 20 = .ok (.getfield 21, 3) := by decide +kernel
theorem dX5_look_23 : decode cX5_look 23 = .ok (.getfield 137, 3) := by decide +kernel
theorem dX5_look_26 : decode cX5_look 26 = .ok (.aload_n 0, 1) := by decide +kernel
theorem dX5_look_27 : decode cX5_look 27 = .ok (.getfield 55, 3) := by decide +kernel
theorem dX5_look_30 : decode cX5_look 30 = .ok (.invokestatic 126, 3) := by decide +kernel
theorem dX5_look_33 : decode cX5_look 33 = .ok (.putfield 110, 3) := by decide +kernel
theorem dX5_look_36 : decode cX5_look 36 = .ok (.return_, 1) := by decide +kernel
theorem dX5_fail_0 : decode cX5_fail 0 = .ok (.aload_n 0, 1) := by decide +kernel
theorem dX5_fail_1 : decode cX5_fail 1 = .ok (.getfield 45, 3) := by decide +kernel
theorem dX5_fail_4 : decode cX5_fail 4 = .ok (.ifCond .ne 13, 3) := by decide +kernel
theorem dX5_fail_7 : decode cX5_fail 7 = .ok (.aload_n 0, 1) := by decide +kernel
theorem dX5_fail_8 : decode cX5_fail 8 = .ok (.iload_n 1, 1) := by decide +kernel
theorem dX5_fail_9 : decode cX5_fail 9 = .ok (.putfield 45, 3) := by decide +kernel
theorem dX5_fail_12 : decode cX5_fail 12 = .ok (.aload_n 0, 1) := by decide +kernel
theorem dX5_fail_13 : decode cX5_fail 13 = .ok (.iload_n 2, 1) := by decide +kernel
theorem dX5_fail_14 : decode cX5_fail 14 = .ok (.putfield 140, 3) := by decide +kernel
theorem dX5_fail_17 : decode cX5_fail 17 = .ok (.return_, 1) := by decide +kernel
theorem dX5_failLater_0 : decode cX5_failLater 0 = .ok (.aload_n 0, 1) := by decide +kernel
theorem dX5_failLater_1 : decode cX5_failLater 1 = .ok (.getfield 45, 3) := by decide +kernel
theorem dX5_failLater_4 : decode cX5_failLater 4 = .ok (.ifCond .ne 20, 3) := by decide +kernel
theorem dX5_failLater_7 : decode cX5_failLater 7 = .ok (.aload_n 0, 1) := by decide +kernel
theorem dX5_failLater_8 : decode cX5_failLater 8 = .ok (.getfield 49, 3) := by decide +kernel
theorem dX5_failLater_11 : decode cX5_failLater 11 = .ok (.ifCond .ne 13, 3) := by decide +kernel
theorem dX5_failLater_14 : decode cX5_failLater 14 = .ok (.aload_n 0, 1) := by decide +kernel
theorem dX5_failLater_15 : decode cX5_failLater 15 = .ok (.iload_n 1, 1) := by decide +kernel
theorem dX5_failLater_16 : decode cX5_failLater 16 = .ok (.putfield 49, 3) := by decide +kernel
theorem dX5_failLater_19 : decode cX5_failLater 19 = .ok (.aload_n 0, 1) := by decide +kernel
theorem dX5_failLater_20 : decode cX5_failLater 20 = .ok (.iload_n 2, 1) := by decide +kernel
theorem dX5_failLater_21 : decode cX5_failLater 21 = .ok (.putfield 117, 3) := by decide +kernel
theorem dX5_failLater_24 : decode cX5_failLater 24 = .ok (.return_, 1) := by decide +kernel
theorem dX5_take_0 : decode cX5_take 0 = .ok (.aload_n 0, 1) := by decide +kernel
theorem dX5_take_1 : decode cX5_take 1 = .ok (.getfield 61, 3) := by decide +kernel
theorem dX5_take_4 : decode cX5_take 4 = .ok (.iload_n 1, 1) := by decide +kernel
theorem dX5_take_5 : decode cX5_take 5 = .ok (.if_icmp .eq 15, 3) := by decide +kernel
theorem dX5_take_8 : decode cX5_take 8 = .ok (.aload_n 0, 1) := by decide +kernel
theorem dX5_take_9 : decode cX5_take 9 = .ok (.iconst 1, 1) := by decide +kernel
theorem dX5_take_10 : decode cX5_take 10 = .ok (.aload_n 0, 1) := by decide +kernel
theorem dX5_take_11 : decode cX5_take 11 = .ok (.getfield 110, 3) := by decide +kernel
theorem dX5_take_14 : decode cX5_take 14 = .ok (.invokevirtual 113, 3) := by decide +kernel
theorem dX5_take_17 : decode cX5_take 17 = .ok (.goto 46, 3) := by decide +kernel
theorem dX5_take_20 : decode cX5_take 20 = .ok (.aload_n 0, 1) := by decide +kernel
theorem dX5_take_21 : decode cX5_take 21 = .ok (.getfield 55, 3) := by decide +kernel
theorem dX5_take_24 : decode cX5_take 24 = .ok (.sipush 400, 3) := by decide +kernel
theorem dX5_take_27 : decode cX5_take 27 = .ok (.if_icmp .lt 15, 3) := by decide +kernel
theorem dX5_take_30 : decode cX5_take 30 = .ok (.aload_n 0, 1) := by decide +kernel
theorem dX5_take_31 : decode cX5_take 31 = .ok (.iconst 2, 1) := by decide +kernel
theorem dX5_take_32 : decode cX5_take 32 = .ok (.aload_n 0, 1) := by decide +kernel
theorem dX5_take_33 : decode cX5_take 33 = .ok (.getfield 110, 3) := by decide +kernel
theorem dX5_take_36 : decode cX5_take 36 = .ok (.invokevirtual 113, 3) := by decide +kernel
theorem dX5_take_39 : decode cX5_take 39 = .ok (.goto 24, 3) := by decide +kernel
theorem dX5_take_42 : decode cX5_take 42 = .ok (.aload_n 0, 1) := by decide +kernel
theorem dX5_take_43 : decode cX5_take 43 = .ok (.getfield 45, 3) := by decide +kernel
theorem dX5_take_46 : decode cX5_take 46 = .ok (.ifCond .ne 17, 3) := by decide +kernel
theorem dX5_take_49 : decode cX5_take 49 = .ok (.aload_n 0, 1) := by decide +kernel
theorem dX5_take_50 : decode cX5_take 50 = .ok (.dup, 1) := by decide +kernel
theorem dX5_take_51 : decode cX5_take 51 = .ok (.getfield 55, 3) := by decide +kernel
theorem dX5_take_54 : decode cX5_take 54 = .ok (.iconst 1, 1) := by decide +kernel
theorem dX5_take_55 : decode cX5_take 55 = .ok (.iadd, 1) := by decide +kernel
theorem dX5_take_56 : decode cX5_take 56 = .ok (.putfield 55, 3) := by decide +kernel
theorem dX5_take_59 : decode cX5_take 59 = .ok (.aload_n 0, 1) := by decide +kernel
theorem dX5_take_60 : decode cX5_take 60 = .ok (.invokevirtual 58, 3) := by decide +kernel
theorem dX5_take_63 : decode cX5_take 63 = .ok (.return_, 1) := by decide +kernel
theorem dX5_takeInt_0 : decode cX5_takeInt 0 = .ok (.aload_n 0, 1) := by decide +kernel
theorem dX5_takeInt_1 : decode cX5_takeInt 1 = .ok (.getfield 110, 3) := by decide +kernel
theorem dX5_takeInt_4 : decode cX5_takeInt 4 = .ok (.istore_n 3, 1) := by decide +kernel
theorem dX5_takeInt_5 : decode cX5_takeInt 5 = .ok (.aload_n 0, 1) := by decide +kernel
theorem dX5_takeInt_6 : decode cX5_takeInt 6 = .ok (.getfield 21, 3) := by decide +kernel
theorem dX5_takeInt_9 : decode cX5_takeInt 9 = .ok (.getfield 143, 3) := by decide +kernel
theorem dX5_takeInt_12 : decode cX5_takeInt 12 = .ok (.aload_n 0, 1) := by decide +kernel
theorem dX5_takeInt_13 : decode cX5_takeInt 13 = .ok (.getfield 55, 3) := by decide +kernel
theorem dX5_takeInt_16 : decode cX5_takeInt 16 = .ok (.invokestatic 126, 3) := by decide +kernel
theorem dX5_takeInt_19 : decode cX5_takeInt 19 = .ok (.istore 4, 2) := by decide +kernel
theorem dX5_takeInt_21 : decode cX5_takeInt 21 = .ok (.aload_n 0, 1) := by decide +kernel
theorem dX5_takeInt_22 : decode cX5_takeInt 22 = .ok (.iconst 3, 1) := by decide +kernel
theorem dX5_takeInt_23 : decode cX5_takeInt 23 = .ok (.invokevirtual 64, 3) := by decide +kernel
theorem dX5_takeInt_26 : decode cX5_takeInt 26 = .ok (.iload 4, 2) := by decide +kernel
theorem dX5_takeInt_28 : decode cX5_takeInt 28 = .ok (.iload_n 1, 1) := by decide +kernel
theorem dX5_takeInt_29 : decode cX5_takeInt 29 = .ok (.if_icmp .lt 9, 3) := by decide +kernel
theorem dX5_takeInt_32 : decode cX5_takeInt 32 = .ok (.iload 4, 2) := by decide +kernel
theorem dX5_takeInt_34 : decode cX5_takeInt 34 = .ok (.iload_n 2, 1) := by decide +kernel
theorem dX5_takeInt_35 : decode cX5_takeInt 35 = .ok (.if_icmp .le 9, 3) := by decide +kernel
theorem dX5_takeInt_38 : decode cX5_takeInt 38 = .ok (.aload_n 0, 1) := by decide +kernel
theorem dX5_takeInt_39 : decode cX5_takeInt 39 = .ok (.iconst 5, 1) := by decide +kernel
theorem dX5_takeInt_40 : decode cX5_takeInt 40 = .ok (.iload_n 3, 1) := by decide +kernel
theorem dX5_takeInt_41 : decode cX5_takeInt 41 = .ok (.invokevirtual 146, 3) := by decide +kernel
theorem dX5_takeInt_44 : decode cX5_takeInt 44 = .ok (.iload 4, 2) := by decide +kernel
theorem dX5_takeInt_46 : decode cX5_takeInt 46 = .ok (.ireturn, 1) := by decide +kernel
theorem dX5_takeMan_0 : decode cX5_takeMan 0 = .ok (.aload_n 0, 1) := by decide +kernel
theorem dX5_takeMan_1 : decode cX5_takeMan 1 = .ok (.getfield 110, 3) := by decide +kernel
theorem dX5_takeMan_4 : decode cX5_takeMan 4 = .ok (.istore_n 1, 1) := by decide +kernel
theorem dX5_takeMan_5 : decode cX5_takeMan 5 = .ok (.aload_n 0, 1) := by decide +kernel
theorem dX5_takeMan_6 : decode cX5_takeMan 6 = .ok (.getfield 14, 3) := by decide +kernel
theorem dX5_takeMan_9 : decode cX5_takeMan 9 = .ok (.aload_n 0, 1) := by decide +kernel
theorem dX5_takeMan_10 : decode cX5_takeMan 10 = .ok (.getfield 21, 3) := by decide +kernel
theorem dX5_takeMan_13 : decode cX5_takeMan 13 = .ok (.aload_n 0, 1) := by decide +kernel
theorem dX5_takeMan_14 : decode cX5_takeMan 14 = .ok (.getfield 55, 3) := by decide +kernel
theorem dX5_takeMan_17 : decode cX5_takeMan 17 = .ok (.invokevirtual 149, 3) := by decide +kernel
theorem dX5_takeMan_20 : decode cX5_takeMan 20 = .ok (.invokevirtual 153, 3) := by decide +kernel
theorem dX5_takeMan_23 : decode cX5_takeMan 23 = .ok (.istore_n 2, 1) := by decide +kernel
theorem dX5_takeMan_24 : decode cX5_takeMan 24 = .ok (.aload_n 0, 1) := by decide +kernel
theorem dX5_takeMan_25 : decode cX5_takeMan 25 = .ok (.iconst 2, 1) := by decide +kernel
theorem dX5_takeMan_26 : decode cX5_takeMan 26 = .ok (.invokevirtual 64, 3) := by decide +kernel
theorem dX5_takeMan_29 : decode cX5_takeMan 29 = .ok (.iload_n 2, 1) := by decide +kernel
theorem dX5_takeMan_30 : decode cX5_takeMan 30 = .ok (.iconst (-1), 1) := by decide +kernel
theorem dX5_takeMan_31 : decode cX5_takeMan 31 = .ok (.if_icmp .ne 9, 3) := by decide +kernel
theorem dX5_takeMan_34 : decode cX5_takeMan 34 = .ok (.aload_n 0, 1) := by decide +kernel
theorem dX5_takeMan_35 : decode cX5_takeMan 35 = .ok (.iconst 4, 1) := by decide +kernel
theorem dX5_takeMan_36 : decode cX5_takeMan 36 = .ok (.iload_n 1, 1) := by decide +kernel
theorem dX5_takeMan_37 : decode cX5_takeMan 37 = .ok (.invokevirtual 146, 3) := by decide +kernel
theorem dX5_takeMan_40 : decode cX5_takeMan 40 = .ok (.iload_n 2, 1) := by decide +kernel
theorem dX5_takeMan_41 : decode cX5_takeMan 41 = .ok (.ireturn, 1) := by decide +kernel
theorem dX5_readMan_0 : decode cX5_readMan 0 = .ok (.aload_n 0, 1) := by decide +kernel
theorem dX5_readMan_1 : decode cX5_readMan 1 = .ok (.getfield 14, 3) := by decide +kernel
theorem dX5_readMan_4 : decode cX5_readMan 4 = .ok (.getfield 157, 3) := by decide +kernel
theorem dX5_readMan_7 : decode cX5_readMan 7 = .ok (.bipush 7, 2) := by decide +kernel
theorem dX5_readMan_9 : decode cX5_readMan 9 = .ok (.if_icmp .lt 12, 3) := by decide +kernel
theorem dX5_readMan_12 : decode cX5_readMan 12 = .ok (.aload_n 0, 1) := by decide +kernel
theorem dX5_readMan_13 : decode cX5_readMan 13 = .ok (.iconst 2, 1) := by decide +kernel
theorem dX5_readMan_14 : decode cX5_readMan 14 = .ok (.aload_n 0, 1) := by decide +kernel
theorem dX5_readMan_15 : decode cX5_readMan 15 = .ok (.getfield 110, 3) := by decide +kernel
theorem dX5_readMan_18 : decode cX5_readMan 18 = .ok (.invokevirtual 113, 3) := by decide +kernel
theorem dX5_readMan_21 : decode cX5_readMan 21 = .ok (.aload_n 0, 1) := by decide +kernel
theorem dX5_readMan_22 : decode cX5_readMan 22 = .ok (.sipush 129, 3) := by decide +kernel
theorem dX5_readMan_25 : decode cX5_readMan 25 = .ok (.invokevirtual 64, 3) := by decide +kernel
theorem dX5_readMan_28 : decode cX5_readMan 28 = .ok (.aload_n 0, 1) := by decide +kernel
theorem dX5_readMan_29 : decode cX5_readMan 29 = .ok (.getfield 110, 3) := by decide +kernel
theorem dX5_readMan_32 : decode cX5_readMan 32 = .ok (.istore_n 1, 1) := by decide +kernel
theorem dX5_readMan_33 : decode cX5_readMan 33 = .ok (.aload_n 0, 1) := by decide +kernel
theorem dX5_readMan_34 : decode cX5_readMan 34 = .ok (.getfield 21, 3) := by decide +kernel
theorem dX5_readMan_37 : decode cX5_readMan 37 = .ok (.aload_n 0, 1) := by decide +kernel
theorem dX5_readMan_38 : decode cX5_readMan 38 = .ok (.getfield 55, 3) := by decide +kernel
theorem dX5_readMan_41 : decode cX5_readMan 41 = .ok (.invokevirtual 149, 3) := by decide +kernel
theorem dX5_readMan_44 : decode cX5_readMan 44 = .ok (.lstore_n 2, 1) := by decide +kernel
theorem dX5_readMan_45 : decode cX5_readMan 45 = .ok (.aload_n 0, 1) := by decide +kernel
theorem dX5_readMan_46 : decode cX5_readMan 46 = .ok (.iconst 2, 1) := by decide +kernel
theorem dX5_readMan_47 : decode cX5_readMan 47 = .ok (.invokevirtual 64, 3) := by decide +kernel
theorem dX5_readMan_50 : decode cX5_readMan 50 = .ok (.aload_n 0, 1) := by decide +kernel
theorem dX5_readMan_51 : decode cX5_readMan 51 = .ok (.getfield 14, 3) := by decide +kernel
theorem dX5_readMan_54 : decode cX5_readMan 54 = .ok (.lload_n 2, 1) := by decide +kernel
theorem dX5_readMan_55 : decode cX5_readMan 55 = .ok (.invokevirtual 153, 3) := by decide +kernel
theorem dX5_readMan_58 : decode cX5_readMan 58 = .ok (.iconst (-1), 1) := by decide +kernel
theorem dX5_readMan_59 : decode cX5_readMan 59 = .ok (.if_icmp .eq 9, 3) := by decide +kernel
theorem dX5_readMan_62 : decode cX5_readMan 62 = .ok (.aload_n 0, 1) := by decide +kernel
theorem dX5_readMan_63 : decode cX5_readMan 63 = .ok (.iconst 3, 1) := by decide +kernel
theorem dX5_readMan_64 : decode cX5_readMan 64 = .ok (.iload_n 1, 1) := by decide +kernel
theorem dX5_readMan_65 : decode cX5_readMan 65 = .ok (.invokevirtual 146, 3) := by decide +kernel
theorem dX5_readMan_68 : decode cX5_readMan 68 = .ok (.aload_n 0, 1) := by decide +kernel
theorem dX5_readMan_69 : decode cX5_readMan 69 = .ok (.invokevirtual 160, 3) := by decide +kernel
theorem dX5_readMan_72 : decode cX5_readMan 72 = .ok (.istore 4, 2) := by decide +kernel
theorem dX5_readMan_74 : decode cX5_readMan 74 = .ok (.aload_n 0, 1) := by decide +kernel
theorem dX5_readMan_75 : decode cX5_readMan 75 = .ok (.getfield 45, 3) := by decide +kernel
theorem dX5_readMan_78 : decode cX5_readMan 78 = .ok (.ifCond .ne 29, 3) := by decide +kernel
theorem dX5_readMan_81 : decode cX5_readMan 81 = .ok (.aload_n 0, 1) := by decide +kernel
theorem dX5_readMan_82 : decode cX5_readMan 82 = .ok (.getfield 14, 3) := by decide +kernel
theorem dX5_readMan_85 : decode cX5_readMan 85 = .ok (.lload_n 2, 1) := by decide +kernel
theorem dX5_readMan_86 : decode cX5_readMan 86 = .ok (.aload_n 0, 1) := by decide +kernel
theorem dX5_readMan_87 : decode cX5_readMan 87 = .ok (.getfield 29, 3) := by decide +kernel
theorem dX5_readMan_90 : decode cX5_readMan 90 = .ok (.iload 4, 2) := by decide +kernel
theorem dX5_readMan_92 : decode cX5_readMan 92 = .ok (.invokestatic 126, 3) := by decide +kernel
theorem dX5_readMan_95 : decode cX5_readMan 95 = .ok (.aload_n 0, 1) := by decide +kernel
theorem dX5_readMan_96 : decode cX5_readMan 96 = .ok (.getfield 32, 3) := by decide +kernel
theorem dX5_readMan_99 : decode cX5_readMan 99 = .ok (.iload 4, 2) := by decide +kernel
theorem dX5_readMan_101 : decode cX5_readMan 101 = .ok (.invokestatic 126, 3) := by decide +kernel
theorem dX5_readMan_104 : decode cX5_readMan 104 = .ok (.invokevirtual 163, 3) := by decide +kernel
theorem dX5_readMan_107 : decode cX5_readMan 107 = .ok (.return_, 1) := by decide +kernel
theorem dX5_readErrand_0 : decode cX5_readErrand 0 = .ok (.aload_n 0, 1) := by decide +kernel
theorem dX5_readErrand_1 : decode cX5_readErrand 1 = .ok (.getfield 110, 3) := by decide +kernel
theorem dX5_readErrand_4 : decode cX5_readErrand 4 = .ok (.istore_n 1, 1) := by decide +kernel
theorem dX5_readErrand_5 : decode cX5_readErrand 5 = .ok (.aload_n 0, 1) := by decide +kernel
theorem dX5_readErrand_6 : decode cX5_readErrand 6 = .ok (.sipush 132, 3) := by decide +kernel
theorem dX5_readErrand_9 : decode cX5_readErrand 9 = .ok (.invokevirtual 64, 3) := by decide +kernel
theorem dX5_readErrand_12 : decode cX5_readErrand 12 = .ok (.aload_n 0, 1) := by decide +kernel
theorem dX5_readErrand_13 : decode cX5_readErrand 13 = .ok (.getfield 61, 3) := by decide +kernel
theorem dX5_readErrand_16 : decode cX5_readErrand 16 = .ok (.iconst 2, 1) := by decide +kernel
theorem dX5_readErrand_17 : decode cX5_readErrand 17 = .ok (.if_icmp .ne 24, 3) := by decide +kernel
theorem dX5_readErrand_20 : decode cX5_readErrand 20 = .ok (.aload_n 0, 1) := by decide +kernel
theorem dX5_readErrand_21 : decode cX5_readErrand 21 = .ok (.getfield 14, 3) := by decide +kernel
theorem dX5_readErrand_24 : decode cX5_readErrand 24 = .ok (.aload_n 0, 1) := by decide +kernel
theorem dX5_readErrand_25 : decode cX5_readErrand 25 = .ok (.getfield 21, 3) := by decide +kernel
theorem dX5_readErrand_28 : decode cX5_readErrand 28 = .ok (.aload_n 0, 1) := by decide +kernel
theorem dX5_readErrand_29 : decode cX5_readErrand 29 = .ok (.getfield 55, 3) := by decide +kernel
theorem dX5_readErrand_32 : decode cX5_readErrand 32 = .ok (.invokevirtual 149, 3) := by decide +kernel
theorem dX5_readErrand_35 : decode cX5_readErrand 35 = .ok (.invokevirtual 153, 3) := by decide +kernel
theorem dX5_readErrand_38 : decode cX5_readErrand 38 = .ok (.goto 4, 3) := by decide +kernel
theorem dX5_readErrand_41 : decode cX5_readErrand 41 = .ok (.iconst (-1), 1) := by decide +kernel
theorem dX5_readErrand_42 : decode cX5_readErrand 42 = .ok (.istore_n 2, 1) := by decide +kernel
theorem dX5_readErrand_43 : decode cX5_readErrand 43 = .ok (.aload_n 0, 1) := by decide +kernel
theorem dX5_readErrand_44 : decode cX5_readErrand 44 = .ok (.getfield 14, 3) := by decide +kernel
theorem dX5_readErrand_47 : decode cX5_readErrand 47 = .ok (.getfield 167, 3) := by decide +kernel
theorem dX5_readErrand_50 : decode cX5_readErrand 50 = .ok (.iload_n 2, 1) := by decide +kernel
theorem dX5_readErrand_51 : decode cX5_readErrand 51 = .ok (.invokestatic 126, 3) := by decide +kernel
theorem dX5_readErrand_54 : decode cX5_readErrand 54 = .ok (.bipush 6, 2) := by decide +kernel
theorem dX5_readErrand_56 : decode cX5_readErrand 56 = .ok (.if_icmp .lt 9, 3) := by decide +kernel
theorem dX5_readErrand_59 : decode cX5_readErrand 59 = .ok (.aload_n 0, 1) := by decide +kernel
theorem dX5_readErrand_60 : decode cX5_readErrand 60 = .ok (.iconst 2, 1) := by decide +kernel
theorem dX5_readErrand_61 : decode cX5_readErrand 61 = .ok (.iload_n 1, 1) := by decide +kernel
theorem dX5_readErrand_62 : decode cX5_readErrand 62 = .ok (.invokevirtual 113, 3) := by decide +kernel
theorem dX5_readErrand_65 : decode cX5_readErrand 65 = .ok (.aload_n 0, 1) := by decide +kernel
theorem dX5_readErrand_66 : decode cX5_readErrand 66 = .ok (.invokevirtual 84, 3) := by decide +kernel
theorem dX5_readErrand_69 : decode cX5_readErrand 69 = .ok (.istore_n 3, 1) := by decide +kernel
theorem dX5_readErrand_70 : decode cX5_readErrand 70 = .ok (.aload_n 0, 1) := by decide +kernel
theorem dX5_readErrand_71 : decode cX5_readErrand 71 = .ok (.invokevirtual 160, 3) := by decide +kernel
theorem dX5_readErrand_74 : decode cX5_readErrand 74 = .ok (.istore 4, 2) := by decide +kernel
theorem dX5_readErrand_76 : decode cX5_readErrand 76 = .ok (.aload_n 0, 1) := by decide +kernel
theorem dX5_readErrand_77 : decode cX5_readErrand 77 = .ok (.getfield 45, 3) := by decide +kernel
theorem dX5_readErrand_80 : decode cX5_readErrand 80 = .ok (.ifCond .ne 34, 3) := by decide +kernel
theorem dX5_readErrand_83 : decode cX5_readErrand 83 = .ok (.iload_n 3, 1) := by decide +kernel
theorem dX5_readErrand_84 : decode cX5_readErrand 84 = .ok (.iconst (-1), 1) := by decide +kernel
theorem dX5_readErrand_85 : decode cX5_readErrand 85 = .ok (.if_icmp .eq 29, 3) := by decide +kernel
theorem dX5_readErrand_88 : decode cX5_readErrand 88 = .ok (.aload_n 0, 1) := by decide +kernel
theorem dX5_readErrand_89 : decode cX5_readErrand 89 = .ok (.getfield 14, 3) := by decide +kernel
theorem dX5_readErrand_92 : decode cX5_readErrand 92 = .ok (.iload_n 3, 1) := by decide +kernel
theorem dX5_readErrand_93 : decode cX5_readErrand 93 = .ok (.aload_n 0, 1) := by decide +kernel
theorem dX5_readErrand_94 : decode cX5_readErrand 94 = .ok (.getfield 29, 3) := by decide +kernel
theorem dX5_readErrand_97 : decode cX5_readErrand 97 = .ok (.iload 4, 2) := by decide +kernel
theorem dX5_readErrand_99 : decode cX5_readErrand 99 = .ok (.invokestatic 126, 3) := by decide +kernel
theorem dX5_readErrand_102 : decode cX5_readErrand 102 = .ok (.aload_n 0, 1) := by decide +kernel
theorem dX5_readErrand_103 : decode cX5_readErrand 103 = .ok (.getfield 32, 3) := by decide +kernel
theorem dX5_readErrand_106 : decode cX5_readErrand 106 = .ok (.iload 4, 2) := by decide +kernel
theorem dX5_readErrand_108 : decode cX5_readErrand 108 = .ok (.invokestatic 126, 3) := by decide +kernel
theorem dX5_readErrand_111 : decode cX5_readErrand 111 = .ok (.invokevirtual 170, 3) := by decide +kernel
theorem dX5_readErrand_114 : decode cX5_readErrand 114 = .ok (.return_, 1) := by decide +kernel
theorem dX5_readCorner_0 : decode cX5_readCorner 0 = .ok (.aload_n 0, 1) := by decide +kernel
theorem dX5_readCorner_1 : decode cX5_readCorner 1 = .ok (.getfield 52, 3) := by decide +kernel
theorem dX5_readCorner_4 : decode cX5_readCorner 4 = .ok (.istore_n 1, 1) := by decide +kernel
theorem dX5_readCorner_5 : decode cX5_readCorner 5 = .ok (.aload_n 0, 1) := by decide +kernel
theorem dX5_readCorner_6 : decode cX5_readCorner 6 = .ok (.getfield 25, 3) := by decide +kernel
theorem dX5_readCorner_9 : decode cX5_readCorner 9 = .ok (.iload_n 1, 1) := by decide +kernel
theorem dX5_readCorner_10 : decode cX5_readCorner 10 = .ok (.aload_n 0, 1) := by decide +kernel
theorem dX5_readCorner_11 : decode cX5_readCorner 11 = .ok (.getfield 110, 3) := by decide +kernel
theorem dX5_readCorner_14 : decode cX5_readCorner 14 = .ok (.invokestatic 91, 3) := by decide +kernel
theorem dX5_readCorner_17 : decode cX5_readCorner 17 = .ok (.aload_n 0, 1) := by decide +kernel
theorem dX5_readCorner_18 : decode cX5_readCorner 18 = .ok (.getfield 29, 3) := by decide +kernel
theorem dX5_readCorner_21 : decode cX5_readCorner 21 = .ok (.iload_n 1, 1) := by decide +kernel
theorem dX5_readCorner_22 : decode cX5_readCorner 22 = .ok (.aload_n 0, 1) := by decide +kernel
theorem dX5_readCorner_23 : decode cX5_readCorner 23 = .ok (.iconst 0, 1) := by decide +kernel
theorem dX5_readCorner_24 : decode cX5_readCorner 24 = .ok (.bipush 11, 2) := by decide +kernel
theorem dX5_readCorner_26 : decode cX5_readCorner 26 = .ok (.invokevirtual 68, 3) := by decide +kernel
theorem dX5_readCorner_29 : decode cX5_readCorner 29 = .ok (.invokestatic 91, 3) := by decide +kernel
theorem dX5_readCorner_32 : decode cX5_readCorner 32 = .ok (.aload_n 0, 1) := by decide +kernel
theorem dX5_readCorner_33 : decode cX5_readCorner 33 = .ok (.getfield 32, 3) := by decide +kernel
theorem dX5_readCorner_36 : decode cX5_readCorner 36 = .ok (.iload_n 1, 1) := by decide +kernel
theorem dX5_readCorner_37 : decode cX5_readCorner 37 = .ok (.aload_n 0, 1) := by decide +kernel
theorem dX5_readCorner_38 : decode cX5_readCorner 38 = .ok (.iconst 0, 1) := by decide +kernel
theorem dX5_readCorner_39 : decode cX5_readCorner 39 = .ok (.bipush 11, 2) := by decide +kernel
theorem dX5_readCorner_41 : decode cX5_readCorner 41 = .ok (.invokevirtual 68, 3) := by decide +kernel
theorem dX5_readCorner_44 : decode cX5_readCorner 44 = .ok (.invokestatic 91, 3) := by decide +kernel
theorem dX5_readCorner_47 : decode cX5_readCorner 47 = .ok (.aload_n 0, 1) := by decide +kernel
theorem dX5_readCorner_48 : decode cX5_readCorner 48 = .ok (.dup, 1) := by decide +kernel
theorem dX5_readCorner_49 : decode cX5_readCorner 49 = .ok (.getfield 52, 3) := by decide +kernel
theorem dX5_readCorner_52 : decode cX5_readCorner 52 = .ok (.iconst 1, 1) := by decide +kernel
theorem dX5_readCorner_53 : decode cX5_readCorner 53 = .ok (.iadd, 1) := by decide +kernel
theorem dX5_readCorner_54 : decode cX5_readCorner 54 = .ok (.putfield 52, 3) := by decide +kernel
theorem dX5_readCorner_57 : decode cX5_readCorner 57 = .ok (.iload_n 1, 1) := by decide +kernel
theorem dX5_readCorner_58 : decode cX5_readCorner 58 = .ok (.ireturn, 1) := by decide +kernel
theorem dX5_readPillar_0 : decode cX5_readPillar 0 = .ok (.aload_n 0, 1) := by decide +kernel
theorem dX5_readPillar_1 : decode cX5_readPillar 1 = .ok (.getfield 14, 3) := by decide +kernel
theorem dX5_readPillar_4 : decode cX5_readPillar 4 = .ok (.getfield 174, 3) := by decide +kernel
theorem dX5_readPillar_7 : decode cX5_readPillar 7 = .ok (.bipush 6, 2) := by decide +kernel
theorem dX5_readPillar_9 : decode cX5_readPillar 9 = .ok (.if_icmp .lt 12, 3) := by decide +kernel
theorem dX5_readPillar_12 : decode cX5_readPillar 12 = .ok (.aload_n 0, 1) := by decide +kernel
theorem dX5_readPillar_13 : decode cX5_readPillar 13 = .ok (.iconst 2, 1) := by decide +kernel
theorem dX5_readPillar_14 : decode cX5_readPillar 14 = .ok (.aload_n 0, 1) := by decide +kernel
theorem dX5_readPillar_15 : decode cX5_readPillar 15 = .ok (.getfield 110, 3) := by decide +kernel
theorem dX5_readPillar_18 : decode cX5_readPillar 18 = .ok (.invokevirtual 113, 3) := by decide +kernel
theorem dX5_readPillar_21 : decode cX5_readPillar 21 = .ok (.aload_n 0, 1) := by decide +kernel
theorem dX5_readPillar_22 : decode cX5_readPillar 22 = .ok (.sipush 133, 3) := by decide +kernel
theorem dX5_readPillar_25 : decode cX5_readPillar 25 = .ok (.invokevirtual 64, 3) := by decide +kernel
theorem dX5_readPillar_28 : decode cX5_readPillar 28 = .ok (.aload_n 0, 1) := by decide +kernel
theorem dX5_readPillar_29 : decode cX5_readPillar 29 = .ok (.iconst 0, 1) := by decide +kernel
theorem dX5_readPillar_30 : decode cX5_readPillar 30 = .ok (.bipush 10, 2) := by decide +kernel
theorem dX5_readPillar_32 : decode cX5_readPillar 32 = .ok (.invokevirtual 68, 3) := by decide +kernel
theorem dX5_readPillar_35 : decode cX5_readPillar 35 = .ok (.istore_n 1, 1) := by decide +kernel
theorem dX5_readPillar_36 : decode cX5_readPillar 36 = .ok (.aload_n 0, 1) := by decide +kernel
theorem dX5_readPillar_37 : decode cX5_readPillar 37 = .ok (.iconst 0, 1) := by decide +kernel
theorem dX5_readPillar_38 : decode cX5_readPillar 38 = .ok (.bipush 10, 2) := by decide +kernel
theorem dX5_readPillar_40 : decode cX5_readPillar 40 = .ok (.invokevirtual 68, 3) := by decide +kernel
theorem dX5_readPillar_43 : decode cX5_readPillar 43 = .ok (.istore_n 2, 1) := by decide +kernel
theorem dX5_readPillar_44 : decode cX5_readPillar 44 = .ok (.aload_n 0, 1) := by decide +kernel
theorem dX5_readPillar_45 : decode cX5_readPillar 45 = .ok (.getfield 45, 3) := by decide +kernel
theorem dX5_readPillar_48 : decode cX5_readPillar 48 = .ok (.ifCond .ne 12, 3) := by decide +kernel
theorem dX5_readPillar_51 : decode cX5_readPillar 51 = .ok (.aload_n 0, 1) := by decide +kernel
theorem dX5_readPillar_52 : decode cX5_readPillar 52 = .ok (.getfield 14, 3) := by decide +kernel
theorem dX5_readPillar_55 : decode cX5_readPillar 55 = .ok (.iload_n 1, 1) := by decide +kernel
theorem dX5_readPillar_56 : decode cX5_readPillar 56 = .ok (.iload_n 2, 1) := by decide +kernel
theorem dX5_readPillar_57 : decode cX5_readPillar 57 = .ok (.invokevirtual 177, 3) := by decide +kernel
theorem dX5_readPillar_60 : decode cX5_readPillar 60 = .ok (.return_, 1) := by decide +kernel
theorem dX5_readLaw_0 : decode cX5_readLaw 0 = .ok (.aload_n 0, 1) := by decide +kernel
theorem dX5_readLaw_1 : decode cX5_readLaw 1 = .ok (.getfield 14, 3) := by decide +kernel
theorem dX5_readLaw_4 : decode cX5_readLaw 4 = .ok (.getfield 180, 3) := by decide +kernel
theorem dX5_readLaw_7 : decode cX5_readLaw 7 = .ok (.astore_n 1, 1) := by decide +kernel
theorem dX5_readLaw_8 : decode cX5_readLaw 8 = .ok (.aload_n 1, 1) := by decide +kernel
theorem dX5_readLaw_9 : decode cX5_readLaw 9 = .ok (.getfield 184, 3) := by decide +kernel
theorem dX5_readLaw_12 : decode cX5_readLaw 12 = .ok (.istore_n 2, 1) := by decide +kernel
theorem dX5_readLaw_13 : decode cX5_readLaw 13 = .ok (.aload_n 0, 1) := by decide +kernel
theorem dX5_readLaw_14 : decode cX5_readLaw 14 = .ok (.bipush 61, 2) := by decide +kernel
theorem dX5_readLaw_16 : decode cX5_readLaw 16 = .ok (.invokevirtual 64, 3) := by decide +kernel
theorem dX5_readLaw_19 : decode cX5_readLaw 19 = .ok (.iconst 0, 1) := by decide +kernel
theorem dX5_readLaw_20 : decode cX5_readLaw 20 = .ok (.istore_n 3, 1) := by decide +kernel
theorem dX5_readLaw_21 : decode cX5_readLaw 21 = .ok (.iload_n 3, 1) := by decide +kernel
theorem dX5_readLaw_22 : decode cX5_readLaw 22 = .ok (.iconst 4, 1) := by decide +kernel
theorem dX5_readLaw_23 : decode cX5_readLaw 23 = .ok (.if_icmp .gt 103, 3) := by decide +kernel
theorem dX5_readLaw_26 : decode cX5_readLaw 26 = .ok (.aload_n 0, 1) := by decide +kernel
theorem dX5_readLaw_27 : decode cX5_readLaw 27 = .ok (.getfield 45, 3) := by decide +kernel
theorem dX5_readLaw_30 : decode cX5_readLaw 30 = .ok (.ifCond .ne 96, 3) := by decide +kernel
theorem dX5_readLaw_33 : decode cX5_readLaw 33 = .ok (.aload_n 0, 1) := by decide +kernel
theorem dX5_readLaw_34 : decode cX5_readLaw 34 = .ok (.getfield 61, 3) := by decide +kernel
theorem dX5_readLaw_37 : decode cX5_readLaw 37 = .ok (.sipush 136, 3) := by decide +kernel
theorem dX5_readLaw_40 : decode cX5_readLaw 40 = .ok (.if_icmp .ne 86, 3) := by decide +kernel
theorem dX5_readLaw_43 : decode cX5_readLaw 43 = .ok (.iload_n 3, 1) := by decide +kernel
theorem dX5_readLaw_44 : decode cX5_readLaw 44 = .ok (.iconst 4, 1) := by decide +kernel
theorem dX5_readLaw_45 : decode cX5_readLaw 45 = .ok (.if_icmp .ne 12, 3) := by decide +kernel
theorem dX5_readLaw_48 : decode cX5_readLaw 48 = .ok (.aload_n 0, 1) := by decide +kernel
theorem dX5_readLaw_49 : decode cX5_readLaw 49 = .ok (.iconst 2, 1) := by decide +kernel
theorem dX5_readLaw_50 : decode cX5_readLaw 50 = .ok (.aload_n 0, 1) := by decide +kernel
theorem dX5_readLaw_51 : decode cX5_readLaw 51 = .ok (.getfield 110, 3) := by decide +kernel
theorem dX5_readLaw_54 : decode cX5_readLaw 54 = .ok (.invokevirtual 113, 3) := by decide +kernel
theorem dX5_readLaw_57 : decode cX5_readLaw 57 = .ok (.aload_n 0, 1) := by decide +kernel
theorem dX5_readLaw_58 : decode cX5_readLaw 58 = .ok (.sipush 136, 3) := by decide +kernel
theorem dX5_readLaw_61 : decode cX5_readLaw 61 = .ok (.invokevirtual 64, 3) := by decide +kernel
theorem dX5_readLaw_64 : decode cX5_readLaw 64 = .ok (.aload_n 0, 1) := by decide +kernel
theorem dX5_readLaw_65 : decode cX5_readLaw 65 = .ok (.invokevirtual 189, 3) := by decide +kernel
theorem dX5_readLaw_68 : decode cX5_readLaw 68 = .ok (.aload_n 0, 1) := by decide +kernel
theorem dX5_readLaw_69 : decode cX5_readLaw 69 = .ok (.bipush 60, 2) := by decide +kernel
theorem dX5_readLaw_71 : decode cX5_readLaw 71 = .ok (.invokevirtual 64, 3) := by decide +kernel
theorem dX5_readLaw_74 : decode cX5_readLaw 74 = .ok (.aload_n 0, 1) := by decide +kernel
theorem dX5_readLaw_75 : decode cX5_readLaw 75 = .ok (.invokevirtual 189, 3) := by decide +kernel
theorem dX5_readLaw_78 : decode cX5_readLaw 78 = .ok (.aload_n 1, 1) := by decide +kernel
theorem dX5_readLaw_79 : decode cX5_readLaw 79 = .ok (.getfield 184, 3) := by decide +kernel
theorem dX5_readLaw_82 : decode cX5_readLaw 82 = .ok (.istore 4, 2) := by decide +kernel
theorem dX5_readLaw_84 : decode cX5_readLaw 84 = .ok (.aload_n 1, 1) := by decide +kernel
theorem dX5_readLaw_85 : decode cX5_readLaw 85 = .ok (.iconst 3, 1) := by decide +kernel
theorem dX5_readLaw_86 : decode cX5_readLaw 86 = .ok (.iconst 0, 1) := by decide +kernel
theorem dX5_readLaw_87 : decode cX5_readLaw 87 = .ok (.invokevirtual 192, 3) := by decide +kernel
theorem dX5_readLaw_90 : decode cX5_readLaw 90 = .ok (.aload_n 0, 1) := by decide +kernel
theorem dX5_readLaw_91 : decode cX5_readLaw 91 = .ok (.sipush 137, 3) := by decide +kernel
theorem dX5_readLaw_94 : decode cX5_readLaw 94 = .ok (.invokevirtual 64, 3) := by decide +kernel
theorem dX5_readLaw_97 : decode cX5_readLaw 97 = .ok (.aload_n 0, 1) := by decide +kernel
theorem dX5_readLaw_98 : decode cX5_readLaw 98 = .ok (.invokevirtual 189, 3) := by decide +kernel
theorem dX5_readLaw_101 : decode cX5_readLaw 101 = .ok (.aload_n 1, 1) := by decide +kernel
theorem dX5_readLaw_102 : decode cX5_readLaw 102 = .ok (.iconst 0, 1) := by decide +kernel
theorem dX5_readLaw_103 : decode cX5_readLaw 103 = .ok (.iconst 0, 1) := by decide +kernel
theorem dX5_readLaw_104 : decode cX5_readLaw 104 = .ok (.invokevirtual 192, 3) := by decide +kernel
theorem dX5_readLaw_107 : decode cX5_readLaw 107 = .ok (.aload_n 1, 1) := by decide +kernel
theorem dX5_readLaw_108 : decode cX5_readLaw 108 = .ok (.iload 4, 2) := by decide +kernel
theorem dX5_readLaw_110 : decode cX5_readLaw 110 = .ok (.invokevirtual 195, 3) := by decide +kernel
theorem dX5_readLaw_113 : decode cX5_readLaw 113 = .ok (.aload_n 0, 1) := by decide +kernel
theorem dX5_readLaw_114 : decode cX5_readLaw 114 = .ok (.sipush 138, 3) := by decide +kernel
theorem dX5_readLaw_117 : decode cX5_readLaw 117 = .ok (.invokevirtual 64, 3) := by decide +kernel
theorem dX5_readLaw_120 : decode cX5_readLaw 120 = .ok (.iinc 3 1, 3) := by decide +kernel
theorem dX5_readLaw_123 : decode cX5_readLaw 123 = .ok (.goto (-102), 3) := by decide +kernel
theorem dX5_readLaw_126 : decode cX5_readLaw 126 = .ok (.aload_n 0, 1) := by decide +kernel
theorem dX5_readLaw_127 : decode cX5_readLaw 127 = .ok (.invokevirtual 189, 3) := by decide +kernel
theorem dX5_readLaw_130 : decode cX5_readLaw 130 = .ok (.aload_n 1, 1) := by decide +kernel
theorem dX5_readLaw_131 : decode cX5_readLaw 131 = .ok (.iconst 0, 1) := by decide +kernel
theorem dX5_readLaw_132 : decode cX5_readLaw 132 = .ok (.iconst 0, 1) := by decide +kernel
theorem dX5_readLaw_133 : decode cX5_readLaw 133 = .ok (.invokevirtual 192, 3) := by decide +kernel
theorem dX5_readLaw_136 : decode cX5_readLaw 136 = .ok (.iload_n 2, 1) := by decide +kernel
theorem dX5_readLaw_137 : decode cX5_readLaw 137 = .ok (.ireturn, 1) := by decide +kernel
theorem dX5_readE_0 : decode cX5_readE 0 = .ok (.aload_n 0, 1) := by decide +kernel
theorem dX5_readE_1 : decode cX5_readE 1 = .ok (.iconst 0, 1) := by decide +kernel
theorem dX5_readE_2 : decode cX5_readE 2 = .ok (.putfield 198, 3) := by decide +kernel
theorem dX5_readE_5 : decode cX5_readE 5 = .ok (.aload_n 0, 1) := by decide +kernel
theorem dX5_readE_6 : decode cX5_readE 6 = .ok (.iconst 0, 1) := by decide +kernel
theorem dX5_readE_7 : decode cX5_readE 7 = .ok (.putfield 201, 3) := by decide +kernel
theorem dX5_readE_10 : decode cX5_readE 10 = .ok (.iconst 1, 1) := by decide +kernel
theorem dX5_readE_11 : decode cX5_readE 11 = .ok (.istore_n 1, 1) := by decide +kernel
theorem dX5_readE_12 : decode cX5_readE 12 = .ok (.iconst 1, 1) := by decide +kernel
theorem dX5_readE_13 : decode cX5_readE 13 = .ok (.istore_n 2, 1) := by decide +kernel
theorem dX5_readE_14 : decode cX5_readE 14 = .ok (.iconst 0, 1) := by decide +kernel
theorem dX5_readE_15 : decode cX5_readE 15 = .ok (.istore_n 3, 1) := by decide +kernel
theorem dX5_readE_16 : decode cX5_readE 16 = .ok (.iload_n 3, 1) := by decide +kernel
theorem dX5_readE_17 : decode cX5_readE 17 = .ok (.sipush 400, 3) := by decide +kernel
theorem dX5_readE_20 : decode cX5_readE 20 = .ok (.if_icmp .gt 67, 3) := by decide +kernel
theorem dX5_readE_23 : decode cX5_readE 23 = .ok (.iload_n 2, 1) := by decide +kernel
theorem dX5_readE_24 : decode cX5_readE 24 = .ok (.ifCond .eq 63, 3) := by decide +kernel
theorem dX5_readE_27 : decode cX5_readE 27 = .ok (.aload_n 0, 1) := by decide +kernel
theorem dX5_readE_28 : decode cX5_readE 28 = .ok (.getfield 45, 3) := by decide +kernel
theorem dX5_readE_31 : decode cX5_readE 31 = .ok (.ifCond .ne 56, 3) := by decide +kernel
theorem dX5_readE_34 : decode cX5_readE 34 = .ok (.iload_n 1, 1) := by decide +kernel
theorem dX5_readE_35 : decode cX5_readE 35 = .ok (.ifCond .eq 11, 3) := by decide +kernel
theorem dX5_readE_38 : decode cX5_readE 38 = .ok (.aload_n 0, 1) := by decide +kernel
theorem dX5_readE_39 : decode cX5_readE 39 = .ok (.invokevirtual 204, 3) := by decide +kernel
theorem dX5_readE_42 : decode cX5_readE 42 = .ok (.istore_n 1, 1) := by decide +kernel
theorem dX5_readE_43 : decode cX5_readE 43 = .ok (.goto 38, 3) := by decide +kernel
theorem dX5_readE_46 : decode cX5_readE 46 = .ok (.aload_n 0, 1) := by decide +kernel
theorem dX5_readE_47 : decode cX5_readE 47 = .ok (.getfield 61, 3) := by decide +kernel
theorem dX5_readE_50 : decode cX5_readE 50 = .ok (.invokestatic 208, 3) := by decide +kernel
theorem dX5_readE_53 : decode cX5_readE 53 = .ok (.ifCond .le 12, 3) := by decide +kernel
theorem dX5_readE_56 : decode cX5_readE 56 = .ok (.aload_n 0, 1) := by decide +kernel
theorem dX5_readE_57 : decode cX5_readE 57 = .ok (.invokevirtual 212, 3) := by decide +kernel
theorem dX5_readE_60 : decode cX5_readE 60 = .ok (.iconst 1, 1) := by decide +kernel
theorem dX5_readE_61 : decode cX5_readE 61 = .ok (.istore_n 1, 1) := by decide +kernel
theorem dX5_readE_62 : decode cX5_readE 62 = .ok (.goto 19, 3) := by decide +kernel
theorem dX5_readE_65 : decode cX5_readE 65 = .ok (.aload_n 0, 1) := by decide +kernel
theorem dX5_readE_66 : decode cX5_readE 66 = .ok (.getfield 201, 3) := by decide +kernel
theorem dX5_readE_69 : decode cX5_readE 69 = .ok (.ifCond .le 10, 3) := by decide +kernel
theorem dX5_readE_72 : decode cX5_readE 72 = .ok (.aload_n 0, 1) := by decide +kernel
theorem dX5_readE_73 : decode cX5_readE 73 = .ok (.invokevirtual 215, 3) := by decide +kernel
theorem dX5_readE_76 : decode cX5_readE 76 = .ok (.goto 5, 3) := by decide +kernel
theorem dX5_readE_79 : decode cX5_readE 79 = .ok (.iconst 0, 1) := by decide +kernel
theorem dX5_readE_80 : decode cX5_readE 80 = .ok (.istore_n 2, 1) := by decide +kernel
theorem dX5_readE_81 : decode cX5_readE 81 = .ok (.iinc 3 1, 3) := by decide +kernel
theorem dX5_readE_84 : decode cX5_readE 84 = .ok (.goto (-68), 3) := by decide +kernel
theorem dX5_readE_87 : decode cX5_readE 87 = .ok (.aload_n 0, 1) := by decide +kernel
theorem dX5_readE_88 : decode cX5_readE 88 = .ok (.iconst 1, 1) := by decide +kernel
theorem dX5_readE_89 : decode cX5_readE 89 = .ok (.invokevirtual 218, 3) := by decide +kernel
theorem dX5_readE_92 : decode cX5_readE 92 = .ok (.return_, 1) := by decide +kernel
theorem dX5_readUnit_0 : decode cX5_readUnit 0 = .ok (.aload_n 0, 1) := by decide +kernel
theorem dX5_readUnit_1 : decode cX5_readUnit 1 = .ok (.getfield 61, 3) := by decide +kernel
theorem dX5_readUnit_4 : decode cX5_readUnit 4 = .ok (.iconst 3, 1) := by decide +kernel
theorem dX5_readUnit_5 : decode cX5_readUnit 5 = .ok (.if_icmp .ne 38, 3) := by decide +kernel
theorem dX5_readUnit_8 : decode cX5_readUnit 8 = .ok (.aload_n 0, 1) := by decide +kernel
theorem dX5_readUnit_9 : decode cX5_readUnit 9 = .ok (.getfield 14, 3) := by decide +kernel
theorem dX5_readUnit_12 : decode cX5_readUnit 12 = .ok (.getfield 180, 3) := by decide +kernel
theorem dX5_readUnit_15 : decode cX5_readUnit 15 = .ok (.iconst 1, 1) := by decide +kernel
theorem dX5_readUnit_16 : decode cX5_readUnit 16 = .ok (.aload_n 0, 1) := by decide +kernel
theorem dX5_readUnit_17 : decode cX5_readUnit 17 = .ok (.getfield 21, 3) := by decide +kernel
theorem dX5_readUnit_20 : decode cX5_readUnit 20 = .ok (.getfield 143, 3) := by decide +kernel
theorem dX5_readUnit_23 : decode cX5_readUnit 23 = .ok (.aload_n 0, 1) := by decide +kernel
theorem dX5_readUnit_24 : decode cX5_readUnit 24 = .ok (.getfield 55, 3) := by decide +kernel
theorem dX5_readUnit_27 : decode cX5_readUnit 27 = .ok (.invokestatic 126, 3) := by decide +kernel
theorem dX5_readUnit_30 : decode cX5_readUnit 30 = .ok (.invokevirtual 192, 3) := by decide +kernel
theorem dX5_readUnit_33 : decode cX5_readUnit 33 = .ok (.aload_n 0, 1) := by decide +kernel
theorem dX5_readUnit_34 : decode cX5_readUnit 34 = .ok (.aload_n 0, 1) := by decide +kernel
theorem dX5_readUnit_35 : decode cX5_readUnit 35 = .ok (.getfield 61, 3) := by decide +kernel
theorem dX5_readUnit_38 : decode cX5_readUnit 38 = .ok (.invokevirtual 64, 3) := by decide +kernel
theorem dX5_readUnit_41 : decode cX5_readUnit 41 = .ok (.iconst 0, 1) := by decide +kernel
theorem dX5_readUnit_42 : decode cX5_readUnit 42 = .ok (.ireturn, 1) := by decide +kernel
theorem dX5_readUnit_43 : decode cX5_readUnit 43 = .ok (.aload_n 0, 1) := by decide +kernel
theorem dX5_readUnit_44 : decode cX5_readUnit 44 = .ok (.getfield 61, 3) := by decide +kernel
theorem dX5_readUnit_47 : decode cX5_readUnit 47 = .ok (.sipush 139, 3) := by decide +kernel
theorem dX5_readUnit_50 : decode cX5_readUnit 50 = .ok (.if_icmp .lt 42, 3) := by decide +kernel
theorem dX5_readUnit_53 : decode cX5_readUnit 53 = .ok (.aload_n 0, 1) := by decide +kernel
theorem dX5_readUnit_54 : decode cX5_readUnit 54 = .ok (.getfield 61, 3) := by decide +kernel
theorem dX5_readUnit_57 : decode cX5_readUnit 57 = .ok (.sipush 144, 3) := by decide +kernel
theorem dX5_readUnit_60 : decode cX5_readUnit 60 = .ok (.if_icmp .gt 32, 3) := by decide +kernel
theorem dX5_readUnit_63 : decode cX5_readUnit 63 = .ok (.aload_n 0, 1) := by decide +kernel
theorem dX5_readUnit_64 : decode cX5_readUnit 64 = .ok (.getfield 14, 3) := by decide +kernel
theorem dX5_readUnit_67 : decode cX5_readUnit 67 = .ok (.getfield 180, 3) := by decide +kernel
theorem dX5_readUnit_70 : decode cX5_readUnit 70 = .ok (.iconst 2, 1) := by decide +kernel
theorem dX5_readUnit_71 : decode cX5_readUnit 71 = .ok (.aload_n 0, 1) := by decide +kernel
theorem dX5_readUnit_72 : decode cX5_readUnit 72 = .ok (.getfield 61, 3) := by decide +kernel
theorem dX5_readUnit_75 : decode cX5_readUnit 75 = .ok (.sipush 139, 3) := by decide +kernel
theorem dX5_readUnit_78 : decode cX5_readUnit 78 = .ok (.isub, 1) := by decide +kernel
theorem dX5_readUnit_79 : decode cX5_readUnit 79 = .ok (.invokevirtual 192, 3) := by decide +kernel
theorem dX5_readUnit_82 : decode cX5_readUnit 82 = .ok (.aload_n 0, 1) := by decide +kernel
theorem dX5_readUnit_83 : decode cX5_readUnit 83 = .ok (.aload_n 0, 1) := by decide +kernel
theorem dX5_readUnit_84 : decode cX5_readUnit 84 = .ok (.getfield 61, 3) := by decide +kernel
theorem dX5_readUnit_87 : decode cX5_readUnit 87 = .ok (.invokevirtual 64, 3) := by decide +kernel
theorem dX5_readUnit_90 : decode cX5_readUnit 90 = .ok (.iconst 0, 1) := by decide +kernel
theorem dX5_readUnit_91 : decode cX5_readUnit 91 = .ok (.ireturn, 1) := by decide +kernel
theorem dX5_readUnit_92 : decode cX5_readUnit 92 = .ok (.aload_n 0, 1) := by decide +kernel
theorem dX5_readUnit_93 : decode cX5_readUnit 93 = .ok (.getfield 61, 3) := by decide +kernel
theorem dX5_readUnit_96 : decode cX5_readUnit 96 = .ok (.bipush 40, 2) := by decide +kernel
theorem dX5_readUnit_98 : decode cX5_readUnit 98 = .ok (.if_icmp .ne 21, 3) := by decide +kernel
theorem dX5_readUnit_101 : decode cX5_readUnit 101 = .ok (.aload_n 0, 1) := by decide +kernel
theorem dX5_readUnit_102 : decode cX5_readUnit 102 = .ok (.getfield 201, 3) := by decide +kernel
theorem dX5_readUnit_105 : decode cX5_readUnit 105 = .ok (.bipush 6, 2) := by decide +kernel
theorem dX5_readUnit_107 : decode cX5_readUnit 107 = .ok (.if_icmp .lt 12, 3) := by decide +kernel
theorem dX5_readUnit_110 : decode cX5_readUnit 110 = .ok (.aload_n 0, 1) := by decide +kernel
theorem dX5_readUnit_111 : decode cX5_readUnit 111 = .ok (.iconst 2, 1) := by decide +kernel
theorem dX5_readUnit_112 : decode cX5_readUnit 112 = .ok (.aload_n 0, 1) := by decide +kernel
theorem dX5_readUnit_113 : decode cX5_readUnit 113 = .ok (.getfield 110, 3) := by decide +kernel
theorem dX5_readUnit_116 : decode cX5_readUnit 116 = .ok (.invokevirtual 113, 3) := by decide +kernel
theorem dX5_readUnit_119 : decode cX5_readUnit 119 = .ok (.aload_n 0, 1) := by decide +kernel
theorem dX5_readUnit_120 : decode cX5_readUnit 120 = .ok (.bipush 40, 2) := by decide +kernel
theorem dX5_readUnit_122 : decode cX5_readUnit 122 = .ok (.invokevirtual 64, 3) := by decide +kernel
theorem dX5_readUnit_125 : decode cX5_readUnit 125 = .ok (.aload_n 0, 1) := by decide +kernel
theorem dX5_readUnit_126 : decode cX5_readUnit 126 = .ok (.dup, 1) := by decide +kernel
theorem dX5_readUnit_127 : decode cX5_readUnit 127 = .ok (.getfield 201, 3) := by decide +kernel
theorem dX5_readUnit_130 : decode cX5_readUnit 130 = .ok (.iconst 1, 1) := by decide +kernel
theorem dX5_readUnit_131 : decode cX5_readUnit 131 = .ok (.iadd, 1) := by decide +kernel
theorem dX5_readUnit_132 : decode cX5_readUnit 132 = .ok (.putfield 201, 3) := by decide +kernel
theorem dX5_readUnit_135 : decode cX5_readUnit 135 = .ok (.aload_n 0, 1) := by decide +kernel
theorem dX5_readUnit_136 : decode cX5_readUnit 136 = .ok (.bipush 40, 2) := by decide +kernel
theorem dX5_readUnit_138 : decode cX5_readUnit 138 = .ok (.invokevirtual 221, 3) := by decide +kernel
theorem dX5_readUnit_141 : decode cX5_readUnit 141 = .ok (.iconst 1, 1) := by decide +kernel
theorem dX5_readUnit_142 : decode cX5_readUnit 142 = .ok (.ireturn, 1) := by decide +kernel
theorem dX5_readOperator_0 : decode cX5_readOperator 0 = .ok (.aload_n 0, 1) := by decide +kernel
theorem dX5_readOperator_1 : decode cX5_readOperator 1 = .ok (.aload_n 0, 1) := by decide +kernel
theorem dX5_readOperator_2 : decode cX5_readOperator 2 = .ok (.getfield 61, 3) := by decide +kernel
theorem dX5_readOperator_5 : decode cX5_readOperator 5 = .ok (.invokestatic 208, 3) := by decide +kernel
theorem dX5_readOperator_8 : decode cX5_readOperator 8 = .ok (.invokevirtual 218, 3) := by decide +kernel
theorem dX5_readOperator_11 : decode cX5_readOperator 11 = .ok (.aload_n 0, 1) := by decide +kernel
theorem dX5_readOperator_12 : decode cX5_readOperator 12 = .ok (.aload_n 0, 1) := by decide +kernel
theorem dX5_readOperator_13 : decode cX5_readOperator 13 = .ok (.getfield 61, 3) := by decide +kernel
theorem dX5_readOperator_16 : decode cX5_readOperator 16 = .ok (.invokevirtual 221, 3) := by decide +kernel
theorem dX5_readOperator_19 : decode cX5_readOperator 19 = .ok (.aload_n 0, 1) := by decide +kernel
theorem dX5_readOperator_20 : decode cX5_readOperator 20 = .ok (.aload_n 0, 1) := by decide +kernel
theorem dX5_readOperator_21 : decode cX5_readOperator 21 = .ok (.getfield 61, 3) := by decide +kernel
theorem dX5_readOperator_24 : decode cX5_readOperator 24 = .ok (.invokevirtual 64, 3) := by decide +kernel
theorem dX5_readOperator_27 : decode cX5_readOperator 27 = .ok (.return_, 1) := by decide +kernel
theorem dX5_readClosing_0 : decode cX5_readClosing 0 = .ok (.aload_n 0, 1) := by decide +kernel
theorem dX5_readClosing_1 : decode cX5_readClosing 1 = .ok (.bipush 41, 2) := by decide +kernel
theorem dX5_readClosing_3 : decode cX5_readClosing 3 = .ok (.invokevirtual 64, 3) := by decide +kernel
theorem dX5_readClosing_6 : decode cX5_readClosing 6 = .ok (.aload_n 0, 1) := by decide +kernel
theorem dX5_readClosing_7 : decode cX5_readClosing 7 = .ok (.iconst 1, 1) := by decide +kernel
theorem dX5_readClosing_8 : decode cX5_readClosing 8 = .ok (.invokevirtual 218, 3) := by decide +kernel
theorem dX5_readClosing_11 : decode cX5_readClosing 11 = .ok (.aload_n 0, 1) := by decide +kernel
theorem dX5_readClosing_12 : decode cX5_readClosing 12 = .ok (.dup, 1) := by decide +kernel
theorem dX5_readClosing_13 : decode cX5_readClosing 13 = .ok (.getfield 198, 3) := by decide +kernel
theorem dX5_readClosing_16 : decode cX5_readClosing 16 = .ok (.iconst 1, 1) := by decide +kernel
theorem dX5_readClosing_17 : decode cX5_readClosing 17 = .ok (.isub, 1) := by decide +kernel
theorem dX5_readClosing_18 : decode cX5_readClosing 18 = .ok (.putfield 198, 3) := by decide +kernel
theorem dX5_readClosing_21 : decode cX5_readClosing 21 = .ok (.aload_n 0, 1) := by decide +kernel
theorem dX5_readClosing_22 : decode cX5_readClosing 22 = .ok (.dup, 1) := by decide +kernel
theorem dX5_readClosing_23 : decode cX5_readClosing 23 = .ok (.getfield 201, 3) := by decide +kernel
theorem dX5_readClosing_26 : decode cX5_readClosing 26 = .ok (.iconst 1, 1) := by decide +kernel
theorem dX5_readClosing_27 : decode cX5_readClosing 27 = .ok (.isub, 1) := by decide +kernel
theorem dX5_readClosing_28 : decode cX5_readClosing 28 = .ok (.putfield 201, 3) := by decide +kernel
theorem dX5_readClosing_31 : decode cX5_readClosing 31 = .ok (.return_, 1) := by decide +kernel
theorem dX5_lineUp_0 : decode cX5_lineUp 0 = .ok (.aload_n 0, 1) := by decide +kernel
theorem dX5_lineUp_1 : decode cX5_lineUp 1 = .ok (.getfield 35, 3) := by decide +kernel
theorem dX5_lineUp_4 : decode cX5_lineUp 4 = .ok (.aload_n 0, 1) := by decide +kernel
theorem dX5_lineUp_5 : decode cX5_lineUp 5 = .ok (.getfield 198, 3) := by decide +kernel
theorem dX5_lineUp_8 : decode cX5_lineUp 8 = .ok (.iload_n 1, 1) := by decide +kernel
theorem dX5_lineUp_9 : decode cX5_lineUp 9 = .ok (.invokestatic 91, 3) := by decide +kernel
theorem dX5_lineUp_12 : decode cX5_lineUp 12 = .ok (.aload_n 0, 1) := by decide +kernel
theorem dX5_lineUp_13 : decode cX5_lineUp 13 = .ok (.dup, 1) := by decide +kernel
theorem dX5_lineUp_14 : decode cX5_lineUp 14 = .ok (.getfield 198, 3) := by decide +kernel
theorem dX5_lineUp_17 : decode cX5_lineUp 17 = .ok (.iconst 1, 1) := by decide +kernel
theorem dX5_lineUp_18 : decode cX5_lineUp 18 = .ok (.iadd, 1) := by decide +kernel
theorem dX5_lineUp_19 : decode cX5_lineUp 19 = .ok (.putfield 198, 3) := by decide +kernel
theorem dX5_lineUp_22 : decode cX5_lineUp 22 = .ok (.return_, 1) := by decide +kernel
theorem dX5_release_0 : decode cX5_release 0 = .ok (.aload_n 0, 1) := by decide +kernel
theorem dX5_release_1 : decode cX5_release 1 = .ok (.getfield 198, 3) := by decide +kernel
theorem dX5_release_4 : decode cX5_release 4 = .ok (.iconst 1, 1) := by decide +kernel
theorem dX5_release_5 : decode cX5_release 5 = .ok (.isub, 1) := by decide +kernel
theorem dX5_release_6 : decode cX5_release 6 = .ok (.istore_n 2, 1) := by decide +kernel
theorem dX5_release_7 : decode cX5_release 7 = .ok (.iload_n 2, 1) := by decide +kernel
theorem dX5_release_8 : decode cX5_release 8 = .ok (.ifCond .lt 53, 3) := by decide +kernel
theorem dX5_release_11 : decode cX5_release 11 = .ok (.aload_n 0, 1) := by decide +kernel
theorem dX5_release_12 : decode cX5_release 12 = .ok (.getfield 35, 3) := by decide +kernel
theorem dX5_release_15 : decode cX5_release 15 = .ok (.iload_n 2, 1) := by decide +kernel
theorem dX5_release_16 : decode cX5_release 16 = .ok (.invokestatic 126, 3) := by decide +kernel
theorem dX5_release_19 : decode cX5_release 19 = .ok (.invokestatic 208, 3) := by decide +kernel
theorem dX5_release_22 : decode cX5_release 22 = .ok (.iload_n 1, 1) := by decide +kernel
theorem dX5_release_23 : decode cX5_release 23 = .ok (.if_icmp .lt 38, 3) := by decide +kernel
theorem dX5_release_26 : decode cX5_release 26 = .ok (.aload_n 0, 1) := by decide +kernel
theorem dX5_release_27 : decode cX5_release 27 = .ok (.getfield 14, 3) := by decide +kernel
theorem dX5_release_30 : decode cX5_release 30 = .ok (.getfield 180, 3) := by decide +kernel
theorem dX5_release_33 : decode cX5_release 33 = .ok (.aload_n 0, 1) := by decide +kernel
theorem dX5_release_34 : decode cX5_release 34 = .ok (.getfield 35, 3) := by decide +kernel
theorem dX5_release_37 : decode cX5_release 37 = .ok (.iload_n 2, 1) := by decide +kernel
theorem dX5_release_38 : decode cX5_release 38 = .ok (.invokestatic 126, 3) := by decide +kernel
theorem dX5_release_41 : decode cX5_release 41 = .ok (.iconst 0, 1) := by decide +kernel
theorem dX5_release_42 : decode cX5_release 42 = .ok (.invokevirtual 192, 3) := by decide +kernel
theorem dX5_release_45 : decode cX5_release 45 = .ok (.aload_n 0, 1) := by decide +kernel
theorem dX5_release_46 : decode cX5_release 46 = .ok (.dup, 1) := by decide +kernel
theorem dX5_release_47 : decode cX5_release 47 = .ok (.getfield 198, 3) := by decide +kernel
theorem dX5_release_50 : decode cX5_release 50 = .ok (.iconst 1, 1) := by decide +kernel
theorem dX5_release_51 : decode cX5_release 51 = .ok (.isub, 1) := by decide +kernel
theorem dX5_release_52 : decode cX5_release 52 = .ok (.putfield 198, 3) := by decide +kernel
theorem dX5_release_55 : decode cX5_release 55 = .ok (.iinc 2 (-1), 3) := by decide +kernel
theorem dX5_release_58 : decode cX5_release 58 = .ok (.goto (-51), 3) := by decide +kernel
theorem dX5_release_61 : decode cX5_release 61 = .ok (.return_, 1) := by decide +kernel
theorem dX5_bindingOf_0 : decode cX5_bindingOf 0 = .ok (.iload_n 0, 1) := by decide +kernel
theorem dX5_bindingOf_1 : decode cX5_bindingOf 1 = .ok (.bipush 42, 2) := by decide +kernel
theorem dX5_bindingOf_3 : decode cX5_bindingOf 3 = .ok (.if_icmp .eq 9, 3) := by decide +kernel
theorem dX5_bindingOf_6 : decode cX5_bindingOf 6 = .ok (.iload_n 0, 1) := by decide +kernel
theorem dX5_bindingOf_7 : decode cX5_bindingOf 7 = .ok (.bipush 47, 2) := by decide +kernel
theorem dX5_bindingOf_9 : decode cX5_bindingOf 9 = .ok (.if_icmp .ne 5, 3) := by decide +kernel
theorem dX5_bindingOf_12 : decode cX5_bindingOf 12 = .ok (.iconst 2, 1) := by decide +kernel
theorem dX5_bindingOf_13 : decode cX5_bindingOf 13 = .ok (.ireturn, 1) := by decide +kernel
theorem dX5_bindingOf_14 : decode cX5_bindingOf 14 = .ok (.iload_n 0, 1) := by decide +kernel
theorem dX5_bindingOf_15 : decode cX5_bindingOf 15 = .ok (.bipush 43, 2) := by decide +kernel
theorem dX5_bindingOf_17 : decode cX5_bindingOf 17 = .ok (.if_icmp .eq 9, 3) := by decide +kernel
theorem dX5_bindingOf_20 : decode cX5_bindingOf 20 = .ok (.iload_n 0, 1) := by decide +kernel
theorem dX5_bindingOf_21 : decode cX5_bindingOf 21 = .ok (.bipush 45, 2) := by decide +kernel
theorem dX5_bindingOf_23 : decode cX5_bindingOf 23 = .ok (.if_icmp .ne 7, 3) := by decide +kernel
theorem dX5_bindingOf_26 : decode cX5_bindingOf 26 = .ok (.iconst 1, 1) := by decide +kernel
theorem dX5_bindingOf_27 : decode cX5_bindingOf 27 = .ok (.goto 4, 3) := by decide +kernel
theorem dX5_bindingOf_30 : decode cX5_bindingOf 30 = .ok (.iconst 0, 1) := by decide +kernel
theorem dX5_bindingOf_31 : decode cX5_bindingOf 31 = .ok (.ireturn, 1) := by decide +kernel
theorem dX6_init_0 : decode cX6_init 0 = .ok (.aload_n 0, 1) := by decide +kernel
theorem dX6_init_1 : decode cX6_init 1 = .ok (.invokespecial 3, 3) := by decide +kernel
theorem dX6_init_4 : decode cX6_init 4 = .ok (.aload_n 0, 1) := by decide +kernel
theorem dX6_init_5 : decode cX6_init 5 = .ok (.new 9, 3) := by decide +kernel
theorem dX6_init_8 : decode cX6_init 8 = .ok (.dup, 1) := by decide +kernel
theorem dX6_init_9 : decode cX6_init 9 = .ok (.invokespecial 11, 3) := by decide +kernel
theorem dX6_init_12 : decode cX6_init 12 = .ok (.putfield 12, 3) := by decide +kernel
theorem dX6_init_15 : decode cX6_init 15 = .ok (.aload_n 0, 1) := by decide +kernel
theorem dX6_init_16 : decode cX6_init 16 = .ok (.bipush 7, 2) := by decide +kernel
theorem dX6_init_18 : decode cX6_init 18 = .ok (.newarray .int, 2) := by decide +kernel
theorem dX6_init_20 : decode cX6_init 20 = .ok (.putfield 18, 3) := by decide +kernel
theorem dX6_init_23 : decode cX6_init 23 = .ok (.aload_n 0, 1) := by decide +kernel
theorem dX6_init_24 : decode cX6_init 24 = .ok (.bipush 7, 2) := by decide +kernel
theorem dX6_init_26 : decode cX6_init 26 = .ok (.newarray .int, 2) := by decide +kernel
theorem dX6_init_28 : decode cX6_init 28 = .ok (.putfield 22, 3) := by decide +kernel
theorem dX6_init_31 : decode cX6_init 31 = .ok (.aload_n 0, 1) := by decide +kernel
theorem dX6_init_32 : decode cX6_init 32 = .ok (.bipush 7, 2) := by decide +kernel
theorem dX6_init_34 : decode cX6_init 34 = .ok (.newarray .int, 2) := by decide +kernel
theorem dX6_init_36 : decode cX6_init 36 = .ok (.putfield 25, 3) := by decide +kernel
theorem dX6_init_39 : decode cX6_init 39 = .ok (.aload_n 0, 1) := by decide +kernel
theorem dX6_init_40 : decode cX6_init 40 = .ok (.bipush 7, 2) := by decide +kernel
theorem dX6_init_42 : decode cX6_init 42 = .ok (.newarray .int, 2) := by decide +kernel
theorem dX6_init_44 : decode cX6_init 44 = .ok (.putfield 28, 3) := by decide +kernel
theorem dX6_init_47 : decode cX6_init 47 = .ok (.aload_n 0, 1) := by decide +kernel
theorem dX6_init_48 : decode cX6_init 48 = .ok (.bipush 7, 2) := by decide +kernel
theorem dX6_init_50 : decode cX6_init 50 = .ok (.newarray .int, 2) := by decide +kernel
theorem dX6_init_52 : decode cX6_init 52 = .ok (.putfield 31, 3) := by decide +kernel
theorem dX6_init_55 : decode cX6_init 55 = .ok (.aload_n 0, 1) := by decide +kernel
theorem dX6_init_56 : decode cX6_init 56 = .ok (.bipush 7, 2) := by decide +kernel
theorem dX6_init_58 : decode cX6_init 58 = .ok (.newarray .int, 2) := by decide +kernel
theorem dX6_init_60 : decode cX6_init 60 = .ok (.putfield 34, 3) := by decide +kernel
theorem dX6_init_63 : decode cX6_init 63 = .ok (.aload_n 0, 1) := by decide +kernel
theorem dX6_init_64 : decode cX6_init 64 = .ok (.bipush 42, 2) := by decide +kernel
theorem dX6_init_66 : decode cX6_init 66 = .ok (.newarray .int, 2) := by decide +kernel
theorem dX6_init_68 : decode cX6_init 68 = .ok (.putfield 37, 3) := by decide +kernel
theorem dX6_init_71 : decode cX6_init 71 = .ok (.aload_n 0, 1) := by decide +kernel
theorem dX6_init_72 : decode cX6_init 72 = .ok (.bipush 42, 2) := by decide +kernel
theorem dX6_init_74 : decode cX6_init 74 = .ok (.newarray .int, 2) := by decide +kernel
theorem dX6_init_76 : decode cX6_init 76 = .ok (.putfield 40, 3) := by decide +kernel
theorem dX6_init_79 : decode cX6_init 79 = .ok (.aload_n 0, 1) := by decide +kernel
theorem dX6_init_80 : decode cX6_init 80 = .ok (.bipush 6, 2) := by decide +kernel
theorem dX6_init_82 : decode cX6_init 82 = .ok (.newarray .int, 2) := by decide +kernel
theorem dX6_init_84 : decode cX6_init 84 = .ok (.putfield 43, 3) := by decide +kernel
theorem dX6_init_87 : decode cX6_init 87 = .ok (.aload_n 0, 1) := by decide +kernel
theorem dX6_init_88 : decode cX6_init 88 = .ok (.bipush 6, 2) := by decide +kernel
theorem dX6_init_90 : decode cX6_init 90 = .ok (.newarray .int, 2) := by decide +kernel
theorem dX6_init_92 : decode cX6_init 92 = .ok (.putfield 46, 3) := by decide +kernel
theorem dX6_init_95 : decode cX6_init 95 = .ok (.aload_n 0, 1) := by decide +kernel
theorem dX6_init_96 : decode cX6_init 96 = .ok (.bipush 7, 2) := by decide +kernel
theorem dX6_init_98 : decode cX6_init 98 = .ok (.newarray .long, 2) := by decide +kernel
theorem dX6_init_100 : decode cX6_init 100 = .ok (.putfield 49, 3) := by decide +kernel
theorem dX6_init_103 : decode cX6_init 103 = .ok (.aload_n 0, 1) := by decide +kernel
theorem dX6_init_104 : decode cX6_init 104 = .ok (.bipush 6, 2) := by decide +kernel
theorem dX6_init_106 : decode cX6_init 106 = .ok (.putfield 53, 3) := by decide +kernel
theorem dX6_init_109 : decode cX6_init 109 = .ok (.aload_n 0, 1) := by decide +kernel
theorem dX6_init_110 : decode cX6_init 110 = .ok (.bipush 6, 2) := by decide +kernel
theorem dX6_init_112 : decode cX6_init 112 = .ok (.putfield 57, 3) := by decide +kernel
theorem dX6_init_115 : decode cX6_init 115 = .ok (.aload_n 0, 1) := by decide +kernel
theorem dX6_init_116 : decode cX6_init 116 = .ok (.iconst (-1), 1) := by decide +kernel
theorem dX6_init_117 : decode cX6_init 117 = .ok (.putfield 60, 3) := by decide +kernel
theorem dX6_init_120 : decode cX6_init 120 = .ok (.return_, 1) := by decide +kernel
theorem dX6_clear_0 : decode cX6_clear 0 = .ok (.aload_n 0, 1) := by decide +kernel
theorem dX6_clear_1 : decode cX6_clear 1 = .ok (.bipush 6, 2) := by decide +kernel
theorem dX6_clear_3 : decode cX6_clear 3 = .ok (.putfield 53, 3) := by decide +kernel
theorem dX6_clear_6 : decode cX6_clear 6 = .ok (.aload_n 0, 1) := by decide +kernel
theorem dX6_clear_7 : decode cX6_clear 7 = .ok (.bipush 6, 2) := by decide +kernel
theorem dX6_clear_9 : decode cX6_clear 9 = .ok (.putfield 57, 3) := by decide +kernel
theorem dX6_clear_12 : decode cX6_clear 12 = .ok (.aload_n 0, 1) := by decide +kernel
theorem dX6_clear_13 : decode cX6_clear 13 = .ok (.iconst 0, 1) := by decide +kernel
theorem dX6_clear_14 : decode cX6_clear 14 = .ok (.putfield 63, 3) := by decide +kernel
theorem dX6_clear_17 : decode cX6_clear 17 = .ok (.aload_n 0, 1) := by decide +kernel
theorem dX6_clear_18 : decode cX6_clear 18 = .ok (.iconst 0, 1) := by decide +kernel
theorem dX6_clear_19 : decode cX6_clear 19 = .ok (.putfield 66, 3) := by decide +kernel
theorem dX6_clear_22 : decode cX6_clear 22 = .ok (.aload_n 0, 1) := by decide +kernel
theorem dX6_clear_23 : decode cX6_clear 23 = .ok (.iconst 0, 1) := by decide +kernel
theorem dX6_clear_24 : decode cX6_clear 24 = .ok (.putfield 69, 3) := by decide +kernel
theorem dX6_clear_27 : decode cX6_clear 27 = .ok (.aload_n 0, 1) := by decide +kernel
theorem dX6_clear_28 : decode cX6_clear 28 = .ok (.iconst (-1), 1) := by decide +kernel
theorem dX6_clear_29 : decode cX6_clear 29 = .ok (.putfield 60, 3) := by decide +kernel
theorem dX6_clear_32 : decode cX6_clear 32 = .ok (.aload_n 0, 1) := by decide +kernel
theorem dX6_clear_33 : decode cX6_clear 33 = .ok (.getfield 12, 3) := by decide +kernel
theorem dX6_clear_36 : decode cX6_clear 36 = .ok (.iconst 0, 1) := by decide +kernel
theorem dX6_clear_37 : decode cX6_clear 37 = .ok (.putfield 72, 3) := by decide +kernel
theorem dX6_clear_40 : decode cX6_clear 40 = .ok (.return_, 1) := by decide +kernel
theorem dX6_addMan_0 : decode cX6_addMan 0 = .ok (.aload_n 0, 1) := by decide +kernel
theorem dX6_addMan_1 : decode cX6_addMan 1 = .ok (.getfield 63, 3) := by decide +kernel
theorem dX6_addMan_4 : decode cX6_addMan 4 = .ok (.ifCond .lt 96, 3) := by decide +kernel
theorem dX6_addMan_7 : decode cX6_addMan 7 = .ok (.aload_n 0, 1) := by decide +kernel
theorem dX6_addMan_8 : decode cX6_addMan 8 = .ok (.getfield 63, 3) := by decide +kernel
theorem dX6_addMan_11 : decode cX6_addMan 11 = .ok (.aload_n 0, 1) := by decide +kernel
theorem dX6_addMan_12 : decode cX6_addMan 12 = .ok (.getfield 49, 3) := by decide +kernel
theorem dX6_addMan_15 : decode cX6_addMan 15 = .ok (.arraylength, 1) := by decide +kernel
theorem dX6_addMan_16 : decode cX6_addMan 16 = .ok (.if_icmp .ge 84, 3) := by decide +kernel
theorem dX6_addMan_19 : decode cX6_addMan 19 = .ok (.aload_n 0, 1) := by decide +kernel
theorem dX6_addMan_20 : decode cX6_addMan 20 = .ok (.getfield 49, 3) := by decide +kernel
theorem dX6_addMan_23 : decode cX6_addMan 23 = .ok (.aload_n 0, 1) := by decide +kernel
theorem dX6_addMan_24 : decode cX6_addMan 24 = .ok (.getfield 63, 3) := by decide +kernel
theorem dX6_addMan_27 : decode cX6_addMan 27 = .ok (.lload_n 1, 1) := by decide +kernel
theorem dX6_addMan_28 : decode cX6_addMan 28 = .ok (.lastore, 1) := by decide +kernel
theorem dX6_addMan_29 : decode cX6_addMan 29 = .ok (.aload_n 0, 1) := by decide +kernel
theorem dX6_addMan_30 : decode cX6_addMan 30 = .ok (.getfield 18, 3) := by decide +kernel
theorem dX6_addMan_33 : decode cX6_addMan 33 = .ok (.aload_n 0, 1) := by decide +kernel
theorem dX6_addMan_34 : decode cX6_addMan 34 = .ok (.getfield 63, 3) := by decide +kernel
theorem dX6_addMan_37 : decode cX6_addMan 37 = .ok (.iload_n 3, 1) := by decide +kernel
theorem dX6_addMan_38 : decode cX6_addMan 38 = .ok (.invokestatic 75, 3) := by decide +kernel
theorem dX6_addMan_41 : decode cX6_addMan 41 = .ok (.aload_n 0, 1) := by decide +kernel
theorem dX6_addMan_42 : decode cX6_addMan 42 = .ok (.getfield 22, 3) := by decide +kernel
theorem dX6_addMan_45 : decode cX6_addMan 45 = .ok (.aload_n 0, 1) := by decide +kernel
theorem dX6_addMan_46 : decode cX6_addMan 46 = .ok (.getfield 63, 3) := by decide +kernel
theorem dX6_addMan_49 : decode cX6_addMan 49 = .ok (.iload 4, 2) := by decide +kernel
theorem dX6_addMan_51 : decode cX6_addMan 51 = .ok (.invokestatic 75, 3) := by decide +kernel
theorem dX6_addMan_54 : decode cX6_addMan 54 = .ok (.aload_n 0, 1) := by decide +kernel
theorem dX6_addMan_55 : decode cX6_addMan 55 = .ok (.getfield 25, 3) := by decide +kernel
theorem dX6_addMan_58 : decode cX6_addMan 58 = .ok (.aload_n 0, 1) := by decide +kernel
theorem dX6_addMan_59 : decode cX6_addMan 59 = .ok (.getfield 63, 3) := by decide +kernel
theorem dX6_addMan_62 : decode cX6_addMan 62 = .ok (.iconst (-1), 1) := by decide +kernel
theorem dX6_addMan_63 : decode cX6_addMan 63 = .ok (.invokestatic 75, 3) := by decide +kernel
theorem dX6_addMan_66 : decode cX6_addMan 66 = .ok (.aload_n 0, 1) := by decide +kernel
theorem dX6_addMan_67 : decode cX6_addMan 67 = .ok (.getfield 31, 3) := by decide +kernel
theorem dX6_addMan_70 : decode cX6_addMan 70 = .ok (.aload_n 0, 1) := by decide +kernel
theorem dX6_addMan_71 : decode cX6_addMan 71 = .ok (.getfield 63, 3) := by decide +kernel
theorem dX6_addMan_74 : decode cX6_addMan 74 = .ok (.iconst 0, 1) := by decide +kernel
theorem dX6_addMan_75 : decode cX6_addMan 75 = .ok (.invokestatic 75, 3) := by decide +kernel
theorem dX6_addMan_78 : decode cX6_addMan 78 = .ok (.aload_n 0, 1) := by decide +kernel
theorem dX6_addMan_79 : decode cX6_addMan 79 = .ok (.getfield 34, 3) := by decide +kernel
theorem dX6_addMan_82 : decode cX6_addMan 82 = .ok (.aload_n 0, 1) := by decide +kernel
theorem dX6_addMan_83 : decode cX6_addMan 83 = .ok (.getfield 63, 3) := by decide +kernel
theorem dX6_addMan_86 : decode cX6_addMan 86 = .ok (.iconst 0, 1) := by decide +kernel
theorem dX6_addMan_87 : decode cX6_addMan 87 = .ok (.invokestatic 75, 3) := by decide +kernel
theorem dX6_addMan_90 : decode cX6_addMan 90 = .ok (.aload_n 0, 1) := by decide +kernel
theorem dX6_addMan_91 : decode cX6_addMan 91 = .ok (.dup, 1) := by decide +kernel
theorem dX6_addMan_92 : decode cX6_addMan 92 = .ok (.getfield 63, 3) := by decide +kernel
theorem dX6_addMan_95 : decode cX6_addMan 95 = .ok (.iconst 1, 1) := by decide +kernel
theorem dX6_addMan_96 : decode cX6_addMan 96 = .ok (.iadd, 1) := by decide +kernel
theorem dX6_addMan_97 : decode cX6_addMan 97 = .ok (.putfield 63, 3) := by decide +kernel
theorem dX6_addMan_100 : decode cX6_addMan 100 = .ok (.return_, 1) := by decide +kernel
theorem dX6_manNamed_0 : decode cX6_manNamed 0 = .ok (.iconst 0, 1) := by decide +kernel
theorem dX6_manNamed_1 : decode cX6_manNamed 1 = .ok (.istore_n 3, 1) := by decide +kernel
theorem dX6_manNamed_2 : decode cX6_manNamed 2 = .ok (.iload_n 3, 1) := by decide +kernel
theorem dX6_manNamed_3 : decode cX6_manNamed 3 = .ok (.aload_n 0, 1) := by decide +kernel
theorem dX6_manNamed_4 : decode cX6_manNamed 4 = .ok (.getfield 63, 3) := by decide +kernel
theorem dX6_manNamed_7 : decode cX6_manNamed 7 = .ok (.if_icmp .ge 31, 3) := by decide +kernel
theorem dX6_manNamed_10 : decode cX6_manNamed 10 = .ok (.iload_n 3, 1) := by decide +kernel
theorem dX6_manNamed_11 : decode cX6_manNamed 11 = .ok (.aload_n 0, 1) := by decide +kernel
theorem dX6_manNamed_12 : decode cX6_manNamed 12 = .ok (.getfield 49, 3) := by decide +kernel
theorem dX6_manNamed_15 : decode cX6_manNamed 15 = .ok (.arraylength, 1) := by decide +kernel
theorem dX6_manNamed_16 : decode cX6_manNamed 16 = .ok (.if_icmp .ge 22, 3) := by decide +kernel
theorem dX6_manNamed_19 : decode cX6_manNamed 19 = .ok (.aload_n 0, 1) := by decide +kernel
theorem dX6_manNamed_20 : decode cX6_manNamed 20 = .ok (.getfield 49, 3) := by decide +kernel
theorem dX6_manNamed_23 : decode cX6_manNamed 23 = .ok (.iload_n 3, 1) := by decide +kernel
theorem dX6_manNamed_24 : decode cX6_manNamed 24 = .ok (.laload, 1) := by decide +kernel
theorem dX6_manNamed_25 : decode cX6_manNamed 25 = .ok (.lload_n 1, 1) := by decide +kernel
theorem dX6_manNamed_26 : decode cX6_manNamed 26 = .ok (.lcmp, 1) := by decide +kernel
theorem dX6_manNamed_27 : decode cX6_manNamed 27 = .ok (.ifCond .ne 5, 3) := by decide +kernel
theorem dX6_manNamed_30 : decode cX6_manNamed 30 = .ok (.iload_n 3, 1) := by decide +kernel
theorem dX6_manNamed_31 : decode cX6_manNamed 31 = .ok (.ireturn, 1) := by decide +kernel
theorem dX6_manNamed_32 : decode cX6_manNamed 32 = .ok (.iinc 3 1, 3) := by decide +kernel
theorem dX6_manNamed_35 : decode cX6_manNamed 35 = .ok (.goto (-33), 3) := by decide +kernel
theorem dX6_manNamed_38 : decode cX6_manNamed 38 = .ok (.iconst (-1), 1) := by decide +kernel
theorem dX6_manNamed_39 : decode cX6_manNamed 39 = .ok (.ireturn, 1) := by decide +kernel
theorem dX6_addErrand_0 : decode cX6_addErrand 0 = .ok (.iload_n 1, 1) := by decide +kernel
theorem dX6_addErrand_1 : decode cX6_addErrand 1 = .ok (.bipush 6, 2) := by decide +kernel
theorem dX6_addErrand_3 : decode cX6_addErrand 3 = .ok (.imul, 1) := by decide +kernel
theorem dX6_addErrand_4 : decode cX6_addErrand 4 = .ok (.aload_n 0, 1) := by decide +kernel
theorem dX6_addErrand_5 : decode cX6_addErrand 5 = .ok (.getfield 34, 3) := by decide +kernel
theorem dX6_addErrand_8 : decode cX6_addErrand 8 = .ok (.iload_n 1, 1) := by decide +kernel
theorem dX6_addErrand_9 : decode cX6_addErrand 9 = .ok (.invokestatic 79, 3) := by decide +kernel
theorem dX6_addErrand_12 : decode cX6_addErrand 12 = .ok (.iadd, 1) := by decide +kernel
theorem dX6_addErrand_13 : decode cX6_addErrand 13 = .ok (.istore 4, 2) := by decide +kernel
theorem dX6_addErrand_15 : decode cX6_addErrand 15 = .ok (.aload_n 0, 1) := by decide +kernel
theorem dX6_addErrand_16 : decode cX6_addErrand 16 = .ok (.getfield 37, 3) := by decide +kernel
theorem dX6_addErrand_19 : decode cX6_addErrand 19 = .ok (.iload 4, 2) := by decide +kernel
theorem dX6_addErrand_21 : decode cX6_addErrand 21 = .ok (.iload_n 2, 1) := by decide +kernel
theorem dX6_addErrand_22 : decode cX6_addErrand 22 = .ok (.invokestatic 75, 3) := by decide +kernel
theorem dX6_addErrand_25 : decode cX6_addErrand 25 = .ok (.aload_n 0, 1) := by decide +kernel
theorem dX6_addErrand_26 : decode cX6_addErrand 26 = .ok (.getfield 40, 3) := by decide +kernel
theorem dX6_addErrand_29 : decode cX6_addErrand 29 = .ok (.iload 4, 2) := by decide +kernel
theorem dX6_addErrand_31 : decode cX6_addErrand 31 = .ok (.iload_n 3, 1) := by decide +kernel
theorem dX6_addErrand_32 : decode cX6_addErrand 32 = .ok (.invokestatic 75, 3) := by decide +kernel
theorem dX6_addErrand_35 : decode cX6_addErrand 35 = .ok (.aload_n 0, 1) := by decide +kernel
theorem dX6_addErrand_36 : decode cX6_addErrand 36 = .ok (.getfield 34, 3) := by decide +kernel
theorem dX6_addErrand_39 : decode cX6_addErrand 39 = .ok (.iload_n 1, 1) := by decide +kernel
theorem dX6_addErrand_40 : decode cX6_addErrand 40 = .ok (.aload_n 0, 1) := by decide +kernel
theorem dX6_addErrand_41 : decode cX6_addErrand 41 = .ok (.getfield 34, 3) := by decide +kernel
theorem dX6_addErrand_44 : decode cX6_addErrand 44 = .ok (.iload_n 1, 1) := by decide +kernel
theorem dX6_addErrand_45 : decode cX6_addErrand 45 = .ok (.invokestatic 79, 3) := by decide +kernel
theorem dX6_addErrand_48 : decode cX6_addErrand 48 = .ok (.iconst 1, 1) := by decide +kernel
theorem dX6_addErrand_49 : decode cX6_addErrand 49 = .ok (.iadd, 1) := by decide +kernel
theorem dX6_addErrand_50 : decode cX6_addErrand 50 = .ok (.invokestatic 75, 3) := by decide +kernel
theorem dX6_addErrand_53 : decode cX6_addErrand 53 = .ok (.return_, 1) := by decide +kernel
theorem dX6_addPillar_0 : decode cX6_addPillar 0 = .ok (.aload_n 0, 1) := by decide +kernel
theorem dX6_addPillar_1 : decode cX6_addPillar 1 = .ok (.getfield 43, 3) := by decide +kernel
theorem dX6_addPillar_4 : decode cX6_addPillar 4 = .ok (.aload_n 0, 1) := by decide +kernel
theorem dX6_addPillar_5 : decode cX6_addPillar 5 = .ok (.getfield 66, 3) := by decide +kernel
theorem dX6_addPillar_8 : decode cX6_addPillar 8 = .ok (.iload_n 1, 1) := by decide +kernel
theorem dX6_addPillar_9 : decode cX6_addPillar 9 = .ok (.invokestatic 75, 3) := by decide +kernel
theorem dX6_addPillar_12 : decode cX6_addPillar 12 = .ok (.aload_n 0, 1) := by decide +kernel
theorem dX6_addPillar_13 : decode cX6_addPillar 13 = .ok (.getfield 46, 3) := by decide +kernel
theorem dX6_addPillar_16 : decode cX6_addPillar 16 = .ok (.aload_n 0, 1) := by decide +kernel
theorem dX6_addPillar_17 : decode cX6_addPillar 17 = .ok (.getfield 66, 3) := by decide +kernel
theorem dX6_addPillar_20 : decode cX6_addPillar 20 = .ok (.iload_n 2, 1) := by decide +kernel
theorem dX6_addPillar_21 : decode cX6_addPillar 21 = .ok (.invokestatic 75, 3) := by decide +kernel
theorem dX6_addPillar_24 : decode cX6_addPillar 24 = .ok (.aload_n 0, 1) := by decide +kernel
theorem dX6_addPillar_25 : decode cX6_addPillar 25 = .ok (.dup, 1) := by decide +kernel
theorem dX6_addPillar_26 : decode cX6_addPillar 26 = .ok (.getfield 66, 3) := by decide +kernel
theorem dX6_addPillar_29 : decode cX6_addPillar 29 = .ok (.iconst 1, 1) := by decide +kernel
theorem dX6_addPillar_30 : decode cX6_addPillar 30 = .ok (.iadd, 1) := by decide +kernel
theorem dX6_addPillar_31 : decode cX6_addPillar 31 = .ok (.putfield 66, 3) := by decide +kernel
theorem dX6_addPillar_34 : decode cX6_addPillar 34 = .ok (.return_, 1) := by decide +kernel
theorem dX6_measure_0 : decode cX6_measure 0 = .ok (.iconst 0, 1) := by decide +kernel
theorem dX6_measure_1 : decode cX6_measure 1 = .ok (.istore_n 1, 1) := by decide +kernel
theorem dX6_measure_2 : decode cX6_measure 2 = .ok (.iload_n 1, 1) := by decide +kernel
theorem dX6_measure_3 : decode cX6_measure 3 = .ok (.aload_n 0, 1) := by decide +kernel
theorem dX6_measure_4 : decode cX6_measure 4 = .ok (.getfield 63, 3) := by decide +kernel
theorem dX6_measure_7 : decode cX6_measure 7 = .ok (.if_icmp .ge 72, 3) := by decide +kernel
theorem dX6_measure_10 : decode cX6_measure 10 = .ok (.aload_n 0, 1) := by decide +kernel
theorem dX6_measure_11 : decode cX6_measure 11 = .ok (.getfield 60, 3) := by decide +kernel
theorem dX6_measure_14 : decode cX6_measure 14 = .ok (.iconst (-1), 1) := by decide +kernel
theorem dX6_measure_15 : decode cX6_measure 15 = .ok (.if_icmp .ne 8, 3) := by decide +kernel
theorem dX6_measure_18 : decode cX6_measure 18 = .ok (.bipush 30, 2) := by decide +kernel
theorem dX6_measure_20 : decode cX6_measure 20 = .ok (.goto 34, 3) := by decide +kernel
theorem dX6_measure_23 : decode cX6_measure 23 = .ok (.aload_n 0, 1) := by decide +kernel
theorem dX6_measure_24 : decode cX6_measure 24 = .ok (.getfield 12, 3) := by decide +kernel
theorem dX6_measure_27 : decode cX6_measure 27 = .ok (.aload_n 0, 1) := by decide +kernel
theorem dX6_measure_28 : decode cX6_measure 28 = .ok (.getfield 60, 3) := by decide +kernel
theorem dX6_measure_31 : decode cX6_measure 31 = .ok (.aload_n 0, 1) := by decide +kernel
theorem dX6_measure_32 : decode cX6_measure 32 = .ok (.getfield 18, 3) := by decide +kernel
theorem dX6_measure_35 : decode cX6_measure 35 = .ok (.iload_n 1, 1) := by decide +kernel
theorem dX6_measure_36 : decode cX6_measure 36 = .ok (.invokestatic 79, 3) := by decide +kernel
theorem dX6_measure_39 : decode cX6_measure 39 = .ok (.aload_n 0, 1) := by decide +kernel
theorem dX6_measure_40 : decode cX6_measure 40 = .ok (.getfield 22, 3) := by decide +kernel
theorem dX6_measure_43 : decode cX6_measure 43 = .ok (.iload_n 1, 1) := by decide +kernel
theorem dX6_measure_44 : decode cX6_measure 44 = .ok (.invokestatic 79, 3) := by decide +kernel
theorem dX6_measure_47 : decode cX6_measure 47 = .ok (.iconst 0, 1) := by decide +kernel
theorem dX6_measure_48 : decode cX6_measure 48 = .ok (.iconst 0, 1) := by decide +kernel
theorem dX6_measure_49 : decode cX6_measure 49 = .ok (.iconst 0, 1) := by decide +kernel
theorem dX6_measure_50 : decode cX6_measure 50 = .ok (.iload_n 1, 1) := by decide +kernel
theorem dX6_measure_51 : decode cX6_measure 51 = .ok (.invokevirtual 83, 3) := by decide +kernel
theorem dX6_measure_54 : decode cX6_measure 54 = .ok (.istore_n 2, 1) := by decide +kernel
theorem dX6_measure_55 : decode cX6_measure 55 = .ok (.aload_n 0, 1) := by decide +kernel
theorem dX6_measure_56 : decode cX6_measure 56 = .ok (.getfield 28, 3) := by decide +kernel
theorem dX6_measure_59 : decode cX6_measure 59 = .ok (.iload_n 1, 1) := by decide +kernel
theorem dX6_measure_60 : decode cX6_measure 60 = .ok (.iconst 0, 1) := by decide +kernel
theorem dX6_measure_61 : decode cX6_measure 61 = .ok (.bipush 60, 2) := by decide +kernel
theorem dX6_measure_63 : decode cX6_measure 63 = .ok (.iload_n 2, 1) := by decide +kernel
theorem dX6_measure_64 : decode cX6_measure 64 = .ok (.invokestatic 87, 3) := by decide +kernel
theorem dX6_measure_67 : decode cX6_measure 67 = .ok (.invokestatic 93, 3) := by decide +kernel
theorem dX6_measure_70 : decode cX6_measure 70 = .ok (.invokestatic 75, 3) := by decide +kernel
theorem dX6_measure_73 : decode cX6_measure 73 = .ok (.iinc 1 1, 3) := by decide +kernel
theorem dX6_measure_76 : decode cX6_measure 76 = .ok (.goto (-74), 3) := by decide +kernel
theorem dX6_measure_79 : decode cX6_measure 79 = .ok (.return_, 1) := by decide +kernel
theorem dX6_goesAt_0 : decode cX6_goesAt 0 = .ok (.aload_n 0, 1) := by decide +kernel
theorem dX6_goesAt_1 : decode cX6_goesAt 1 = .ok (.getfield 25, 3) := by decide +kernel
theorem dX6_goesAt_4 : decode cX6_goesAt 4 = .ok (.iload_n 1, 1) := by decide +kernel
theorem dX6_goesAt_5 : decode cX6_goesAt 5 = .ok (.invokestatic 79, 3) := by decide +kernel
theorem dX6_goesAt_8 : decode cX6_goesAt 8 = .ok (.istore 6, 2) := by decide +kernel
theorem dX6_goesAt_10 : decode cX6_goesAt 10 = .ok (.iload 6, 2) := by decide +kernel
theorem dX6_goesAt_12 : decode cX6_goesAt 12 = .ok (.iconst (-1), 1) := by decide +kernel
theorem dX6_goesAt_13 : decode cX6_goesAt 13 = .ok (.if_icmp .ne 5, 3) := by decide +kernel
theorem dX6_goesAt_16 : decode cX6_goesAt 16 = .ok (.iconst 0, 1) := by decide +kernel
theorem dX6_goesAt_17 : decode cX6_goesAt 17 = .ok (.ireturn, 1) := by decide +kernel
theorem dX6_goesAt_18 : decode cX6_goesAt 18 = .ok (.bipush 100, 2) := by decide +kernel
theorem dX6_goesAt_20 : decode cX6_goesAt 20 = .ok (.aload_n 0, 1) := by decide +kernel
theorem dX6_goesAt_21 : decode cX6_goesAt 21 = .ok (.getfield 69, 3) := by decide +kernel
theorem dX6_goesAt_24 : decode cX6_goesAt 24 = .ok (.bipush 8, 2) := by decide +kernel
theorem dX6_goesAt_26 : decode cX6_goesAt 26 = .ok (.iload 4, 2) := by decide +kernel
theorem dX6_goesAt_28 : decode cX6_goesAt 28 = .ok (.imul, 1) := by decide +kernel
theorem dX6_goesAt_29 : decode cX6_goesAt 29 = .ok (.iload_n 1, 1) := by decide +kernel
theorem dX6_goesAt_30 : decode cX6_goesAt 30 = .ok (.iadd, 1) := by decide +kernel
theorem dX6_goesAt_31 : decode cX6_goesAt 31 = .ok (.invokestatic 96, 3) := by decide +kernel
theorem dX6_goesAt_34 : decode cX6_goesAt 34 = .ok (.istore 7, 2) := by decide +kernel
theorem dX6_goesAt_36 : decode cX6_goesAt 36 = .ok (.iconst 0, 1) := by decide +kernel
theorem dX6_goesAt_37 : decode cX6_goesAt 37 = .ok (.aload_n 0, 1) := by decide +kernel
theorem dX6_goesAt_38 : decode cX6_goesAt 38 = .ok (.getfield 12, 3) := by decide +kernel
theorem dX6_goesAt_41 : decode cX6_goesAt 41 = .ok (.iload 6, 2) := by decide +kernel
theorem dX6_goesAt_43 : decode cX6_goesAt 43 = .ok (.iload_n 2, 1) := by decide +kernel
theorem dX6_goesAt_44 : decode cX6_goesAt 44 = .ok (.iload_n 3, 1) := by decide +kernel
theorem dX6_goesAt_45 : decode cX6_goesAt 45 = .ok (.iload 4, 2) := by decide +kernel
theorem dX6_goesAt_47 : decode cX6_goesAt 47 = .ok (.iload 5, 2) := by decide +kernel
theorem dX6_goesAt_49 : decode cX6_goesAt 49 = .ok (.iload 7, 2) := by decide +kernel
theorem dX6_goesAt_51 : decode cX6_goesAt 51 = .ok (.iload_n 1, 1) := by decide +kernel
theorem dX6_goesAt_52 : decode cX6_goesAt 52 = .ok (.invokevirtual 83, 3) := by decide +kernel
theorem dX6_goesAt_55 : decode cX6_goesAt 55 = .ok (.bipush 6, 2) := by decide +kernel
theorem dX6_goesAt_57 : decode cX6_goesAt 57 = .ok (.irem, 1) := by decide +kernel
theorem dX6_goesAt_58 : decode cX6_goesAt 58 = .ok (.invokestatic 93, 3) := by decide +kernel
theorem dX6_goesAt_61 : decode cX6_goesAt 61 = .ok (.ireturn, 1) := by decide +kernel
theorem dX6_hasCorner_0 : decode cX6_hasCorner 0 = .ok (.iload_n 1, 1) := by decide +kernel
theorem dX6_hasCorner_1 : decode cX6_hasCorner 1 = .ok (.ifCond .lt 27, 3) := by decide +kernel
theorem dX6_hasCorner_4 : decode cX6_hasCorner 4 = .ok (.iload_n 1, 1) := by decide +kernel
theorem dX6_hasCorner_5 : decode cX6_hasCorner 5 = .ok (.aload_n 0, 1) := by decide +kernel
theorem dX6_hasCorner_6 : decode cX6_hasCorner 6 = .ok (.getfield 53, 3) := by decide +kernel
theorem dX6_hasCorner_9 : decode cX6_hasCorner 9 = .ok (.if_icmp .ge 19, 3) := by decide +kernel
theorem dX6_hasCorner_12 : decode cX6_hasCorner 12 = .ok (.iload_n 2, 1) := by decide +kernel
theorem dX6_hasCorner_13 : decode cX6_hasCorner 13 = .ok (.ifCond .lt 15, 3) := by decide +kernel
theorem dX6_hasCorner_16 : decode cX6_hasCorner 16 = .ok (.iload_n 2, 1) := by decide +kernel
theorem dX6_hasCorner_17 : decode cX6_hasCorner 17 = .ok (.aload_n 0, 1) := by decide +kernel
theorem dX6_hasCorner_18 : decode cX6_hasCorner 18 = .ok (.getfield 57, 3) := by decide +kernel
theorem dX6_hasCorner_21 : decode cX6_hasCorner 21 = .ok (.if_icmp .ge 7, 3) := by decide +kernel
theorem dX6_hasCorner_24 : decode cX6_hasCorner 24 = .ok (.iconst 1, 1) := by decide +kernel
theorem dX6_hasCorner_25 : decode cX6_hasCorner 25 = .ok (.goto 4, 3) := by decide +kernel
theorem dX6_hasCorner_28 : decode cX6_hasCorner 28 = .ok (.iconst 0, 1) := by decide +kernel
theorem dX6_hasCorner_29 : decode cX6_hasCorner 29 = .ok (.ireturn, 1) := by decide +kernel
theorem dX6_hasStreet_0 : decode cX6_hasStreet 0 = .ok (.iload_n 3, 1) := by decide +kernel
theorem dX6_hasStreet_1 : decode cX6_hasStreet 1 = .ok (.iconst 1, 1) := by decide +kernel
theorem dX6_hasStreet_2 : decode cX6_hasStreet 2 = .ok (.if_icmp .lt 46, 3) := by decide +kernel
theorem dX6_hasStreet_5 : decode cX6_hasStreet 5 = .ok (.iload_n 3, 1) := by decide +kernel
theorem dX6_hasStreet_6 : decode cX6_hasStreet 6 = .ok (.iconst 4, 1) := by decide +kernel
theorem dX6_hasStreet_7 : decode cX6_hasStreet 7 = .ok (.if_icmp .gt 41, 3) := by decide +kernel
theorem dX6_hasStreet_10 : decode cX6_hasStreet 10 = .ok (.aload_n 0, 1) := by decide +kernel
theorem dX6_hasStreet_11 : decode cX6_hasStreet 11 = .ok (.iload_n 1, 1) := by decide +kernel
theorem dX6_hasStreet_12 : decode cX6_hasStreet 12 = .ok (.iload_n 2, 1) := by decide +kernel
theorem dX6_hasStreet_13 : decode cX6_hasStreet 13 = .ok (.invokevirtual 100, 3) := by decide +kernel
theorem dX6_hasStreet_16 : decode cX6_hasStreet 16 = .ok (.ifCond .eq 32, 3) := by decide +kernel
theorem dX6_hasStreet_19 : decode cX6_hasStreet 19 = .ok (.aload_n 0, 1) := by decide +kernel
theorem dX6_hasStreet_20 : decode cX6_hasStreet 20 = .ok (.iload_n 1, 1) := by decide +kernel
theorem dX6_hasStreet_21 : decode cX6_hasStreet 21 = .ok (.getstatic 104, 3) := by decide +kernel
theorem dX6_hasStreet_24 : decode cX6_hasStreet 24 = .ok (.iload_n 3, 1) := by decide +kernel
theorem dX6_hasStreet_25 : decode cX6_hasStreet 25 = .ok (.invokestatic 79, 3) := by decide +kernel
theorem dX6_hasStreet_28 : decode cX6_hasStreet 28 = .ok (.iadd, 1) := by decide +kernel
theorem dX6_hasStreet_29 : decode cX6_hasStreet 29 = .ok (.iload_n 2, 1) := by decide +kernel
theorem dX6_hasStreet_30 : decode cX6_hasStreet 30 = .ok (.getstatic 107, 3) := by decide +kernel
theorem dX6_hasStreet_33 : decode cX6_hasStreet 33 = .ok (.iload_n 3, 1) := by decide +kernel
theorem dX6_hasStreet_34 : decode cX6_hasStreet 34 = .ok (.invokestatic 79, 3) := by decide +kernel
theorem dX6_hasStreet_37 : decode cX6_hasStreet 37 = .ok (.iadd, 1) := by decide +kernel
theorem dX6_hasStreet_38 : decode cX6_hasStreet 38 = .ok (.invokevirtual 100, 3) := by decide +kernel
theorem dX6_hasStreet_41 : decode cX6_hasStreet 41 = .ok (.ifCond .eq 7, 3) := by decide +kernel
theorem dX6_hasStreet_44 : decode cX6_hasStreet 44 = .ok (.iconst 1, 1) := by decide +kernel
theorem dX6_hasStreet_45 : decode cX6_hasStreet 45 = .ok (.goto 4, 3) := by decide +kernel
theorem dX6_hasStreet_48 : decode cX6_hasStreet 48 = .ok (.iconst 0, 1) := by decide +kernel
theorem dX6_hasStreet_49 : decode cX6_hasStreet 49 = .ok (.ireturn, 1) := by decide +kernel
theorem dX6_countErrands_0 : decode cX6_countErrands 0 = .ok (.iconst 0, 1) := by decide +kernel
theorem dX6_countErrands_1 : decode cX6_countErrands 1 = .ok (.istore_n 1, 1) := by decide +kernel
theorem dX6_countErrands_2 : decode cX6_countErrands 2 = .ok (.iconst 0, 1) := by decide +kernel
theorem dX6_countErrands_3 : decode cX6_countErrands 3 = .ok (.istore_n 2, 1) := by decide +kernel
theorem dX6_countErrands_4 : decode cX6_countErrands 4 = .ok (.iload_n 2, 1) := by decide +kernel
theorem dX6_countErrands_5 : decode cX6_countErrands 5 = .ok (.aload_n 0, 1) := by decide +kernel
theorem dX6_countErrands_6 : decode cX6_countErrands 6 = .ok (.getfield 63, 3) := by decide +kernel
theorem dX6_countErrands_9 : decode cX6_countErrands 9 = .ok (.if_icmp .ge 20, 3) := by decide +kernel
theorem dX6_countErrands_12 : decode cX6_countErrands 12 = .ok (.iload_n 1, 1) := by decide +kernel
theorem dX6_countErrands_13 : decode cX6_countErrands 13 = .ok (.aload_n 0, 1) := by decide +kernel
theorem dX6_countErrands_14 : decode cX6_countErrands 14 = .ok (.getfield 34, 3) := by decide +kernel
theorem dX6_countErrands_17 : decode cX6_countErrands 17 = .ok (.iload_n 2, 1) := by decide +kernel
theorem dX6_countErrands_18 : decode cX6_countErrands 18 = .ok (.invokestatic 79, 3) := by decide +kernel
theorem dX6_countErrands_21 : decode cX6_countErrands 21 = .ok (.iadd, 1) := by decide +kernel
theorem dX6_countErrands_22 : decode cX6_countErrands 22 = .ok (.istore_n 1, 1) := by decide +kernel
theorem dX6_countErrands_23 : decode cX6_countErrands 23 = .ok (.iinc 2 1, 3) := by decide +kernel
theorem dX6_countErrands_26 : decode cX6_countErrands 26 = .ok (.goto (-22), 3) := by decide +kernel
theorem dX6_countErrands_29 : decode cX6_countErrands 29 = .ok (.iload_n 1, 1) := by decide +kernel
theorem dX6_countErrands_30 : decode cX6_countErrands 30 = .ok (.ireturn, 1) := by decide +kernel
theorem dX6_errandFrom_0 : decode cX6_errandFrom 0 = .ok (.iload_n 1, 1) := by decide +kernel
theorem dX6_errandFrom_1 : decode cX6_errandFrom 1 = .ok (.bipush 6, 2) := by decide +kernel
theorem dX6_errandFrom_3 : decode cX6_errandFrom 3 = .ok (.imul, 1) := by decide +kernel
theorem dX6_errandFrom_4 : decode cX6_errandFrom 4 = .ok (.iload_n 2, 1) := by decide +kernel
theorem dX6_errandFrom_5 : decode cX6_errandFrom 5 = .ok (.iadd, 1) := by decide +kernel
theorem dX6_errandFrom_6 : decode cX6_errandFrom 6 = .ok (.istore 5, 2) := by decide +kernel
theorem dX6_errandFrom_8 : decode cX6_errandFrom 8 = .ok (.iload_n 3, 1) := by decide +kernel
theorem dX6_errandFrom_9 : decode cX6_errandFrom 9 = .ok (.iload 4, 2) := by decide +kernel
theorem dX6_errandFrom_11 : decode cX6_errandFrom 11 = .ok (.aload_n 0, 1) := by decide +kernel
theorem dX6_errandFrom_12 : decode cX6_errandFrom 12 = .ok (.getfield 37, 3) := by decide +kernel
theorem dX6_errandFrom_15 : decode cX6_errandFrom 15 = .ok (.iload 5, 2) := by decide +kernel
theorem dX6_errandFrom_17 : decode cX6_errandFrom 17 = .ok (.invokestatic 79, 3) := by decide +kernel
theorem dX6_errandFrom_20 : decode cX6_errandFrom 20 = .ok (.aload_n 0, 1) := by decide +kernel
theorem dX6_errandFrom_21 : decode cX6_errandFrom 21 = .ok (.getfield 40, 3) := by decide +kernel
theorem dX6_errandFrom_24 : decode cX6_errandFrom 24 = .ok (.iload 5, 2) := by decide +kernel
theorem dX6_errandFrom_26 : decode cX6_errandFrom 26 = .ok (.invokestatic 79, 3) := by decide +kernel
theorem dX6_errandFrom_29 : decode cX6_errandFrom 29 = .ok (.invokestatic 110, 3) := by decide +kernel
theorem dX6_errandFrom_32 : decode cX6_errandFrom 32 = .ok (.ireturn, 1) := by decide +kernel
theorem dX7_init_0 : decode cX7_init 0 = .ok (.aload_n 0, 1) := by decide +kernel
theorem dX7_init_1 : decode cX7_init 1 = .ok (.invokespecial 3, 3) := by decide +kernel
theorem dX7_init_4 : decode cX7_init 4 = .ok (.aload_n 0, 1) := by decide +kernel
theorem dX7_init_5 : decode cX7_init 5 = .ok (.bipush 7, 2) := by decide +kernel
theorem dX7_init_7 : decode cX7_init 7 = .ok (.newarray .int, 2) := by decide +kernel
theorem dX7_init_9 : decode cX7_init 9 = .ok (.putfield 9, 3) := by decide +kernel
theorem dX7_init_12 : decode cX7_init 12 = .ok (.aload_n 0, 1) := by decide +kernel
theorem dX7_init_13 : decode cX7_init 13 = .ok (.bipush 7, 2) := by decide +kernel
theorem dX7_init_15 : decode cX7_init 15 = .ok (.newarray .int, 2) := by decide +kernel
theorem dX7_init_17 : decode cX7_init 17 = .ok (.putfield 15, 3) := by decide +kernel
theorem dX7_init_20 : decode cX7_init 20 = .ok (.aload_n 0, 1) := by decide +kernel
theorem dX7_init_21 : decode cX7_init 21 = .ok (.bipush 7, 2) := by decide +kernel
theorem dX7_init_23 : decode cX7_init 23 = .ok (.newarray .int, 2) := by decide +kernel
theorem dX7_init_25 : decode cX7_init 25 = .ok (.putfield 18, 3) := by decide +kernel
theorem dX7_init_28 : decode cX7_init 28 = .ok (.aload_n 0, 1) := by decide +kernel
theorem dX7_init_29 : decode cX7_init 29 = .ok (.sipush 144, 3) := by decide +kernel
theorem dX7_init_32 : decode cX7_init 32 = .ok (.newarray .int, 2) := by decide +kernel
theorem dX7_init_34 : decode cX7_init 34 = .ok (.putfield 21, 3) := by decide +kernel
theorem dX7_init_37 : decode cX7_init 37 = .ok (.aload_n 0, 1) := by decide +kernel
theorem dX7_init_38 : decode cX7_init 38 = .ok (.sipush 128, 3) := by decide +kernel
theorem dX7_init_41 : decode cX7_init 41 = .ok (.newarray .int, 2) := by decide +kernel
theorem dX7_init_43 : decode cX7_init 43 = .ok (.putfield 24, 3) := by decide +kernel
theorem dX7_init_46 : decode cX7_init 46 = .ok (.return_, 1) := by decide +kernel
theorem dX7_look_0 : decode cX7_look 0 = .ok (.aload_n 0, 1) := by decide +kernel
theorem dX7_look_1 : decode cX7_look 1 = .ok (.aload_n 2, 1) := by decide +kernel
theorem dX7_look_2 : decode cX7_look 2 = .ok (.aload_n 1, 1) := by decide +kernel
theorem dX7_look_3 : decode cX7_look 3 = .ok (.iconst 1, 1) := by decide +kernel
theorem dX7_look_4 : decode cX7_look 4 = .ok (.invokevirtual 27, 3) := by decide +kernel
theorem dX7_look_7 : decode cX7_look 7 = .ok (.putfield 33, 3) := by decide +kernel
theorem dX7_look_10 : decode cX7_look 10 = .ok (.aload_n 0, 1) := by decide +kernel
theorem dX7_look_11 : decode cX7_look 11 = .ok (.getfield 9, 3) := by decide +kernel
theorem dX7_look_14 : decode cX7_look 14 = .ok (.iconst 0, 1) := by decide +kernel
theorem dX7_look_15 : decode cX7_look 15 = .ok (.invokestatic 37, 3) := by decide +kernel
theorem dX7_look_18 : decode cX7_look 18 = .ok (.aload_n 0, 1) := by decide +kernel
theorem dX7_look_19 : decode cX7_look 19 = .ok (.getfield 15, 3) := by decide +kernel
theorem dX7_look_22 : decode cX7_look 22 = .ok (.iconst 0, 1) := by decide +kernel
theorem dX7_look_23 : decode cX7_look 23 = .ok (.invokestatic 37, 3) := by decide +kernel
theorem dX7_look_26 : decode cX7_look 26 = .ok (.iconst 0, 1) := by decide +kernel
theorem dX7_look_27 : decode cX7_look 27 = .ok (.istore_n 3, 1) := by decide +kernel
theorem dX7_look_28 : decode cX7_look 28 = .ok (.iload_n 3, 1) := by decide +kernel
theorem dX7_look_29 : decode cX7_look 29 = .ok (.sipush 288, 3) := by decide +kernel
theorem dX7_look_32 : decode cX7_look 32 = .ok (.if_icmp .ge 22, 3) := by decide +kernel
theorem dX7_look_35 : decode cX7_look 35 = .ok (.aload_n 0, 1) := by decide +kernel
theorem dX7_look_36 : decode cX7_look 36 = .ok (.aload_n 2, 1) := by decide +kernel
theorem dX7_look_37 : decode cX7_look 37 = .ok (.aload_n 2, 1) := by decide +kernel
theorem dX7_look_38 : decode cX7_look 38 = .ok (.getfield 43, 3) := by decide +kernel
theorem dX7_look_41 : decode cX7_look 41 = .ok (.iload_n 3, 1) := by decide +kernel
theorem dX7_look_42 : decode cX7_look 42 = .ok (.invokestatic 46, 3) := by decide +kernel
theorem dX7_look_45 : decode cX7_look 45 = .ok (.invokevirtual 50, 3) := by decide +kernel
theorem dX7_look_48 : decode cX7_look 48 = .ok (.iinc 3 1, 3) := by decide +kernel
theorem dX7_look_51 : decode cX7_look 51 = .ok (.goto (-23), 3) := by decide +kernel
theorem dX7_look_54 : decode cX7_look 54 = .ok (.return_, 1) := by decide +kernel
theorem dX7_lookAt_0 : decode cX7_lookAt 0 = .ok (.iconst 0, 1) := by decide +kernel
theorem dX7_lookAt_1 : decode cX7_lookAt 1 = .ok (.istore_n 3, 1) := by decide +kernel
theorem dX7_lookAt_2 : decode cX7_lookAt 2 = .ok (.iload_n 2, 1) := by decide +kernel
theorem dX7_lookAt_3 : decode cX7_lookAt 3 = .ok (.istore 4, 2) := by decide +kernel
theorem dX7_lookAt_5 : decode cX7_lookAt 5 = .ok (.iconst 0, 1) := by decide +kernel
theorem dX7_lookAt_6 : decode cX7_lookAt 6 = .ok (.istore 5, 2) := by decide +kernel
theorem dX7_lookAt_8 : decode cX7_lookAt 8 = .ok (.iload 5, 2) := by decide +kernel
theorem dX7_lookAt_10 : decode cX7_lookAt 10 = .ok (.sipush 420, 3) := by decide +kernel
theorem dX7_lookAt_13 : decode cX7_lookAt 13 = .ok (.if_icmp .ge 70, 3) := by decide +kernel
theorem dX7_lookAt_16 : decode cX7_lookAt 16 = .ok (.iload 4, 2) := by decide +kernel
theorem dX7_lookAt_18 : decode cX7_lookAt 18 = .ok (.ifCond .eq 65, 3) := by decide +kernel
theorem dX7_lookAt_21 : decode cX7_lookAt 21 = .ok (.iload 4, 2) := by decide +kernel
theorem dX7_lookAt_23 : decode cX7_lookAt 23 = .ok (.invokestatic 54, 3) := by decide +kernel
theorem dX7_lookAt_26 : decode cX7_lookAt 26 = .ok (.istore 6, 2) := by decide +kernel
theorem dX7_lookAt_28 : decode cX7_lookAt 28 = .ok (.iload_n 3, 1) := by decide +kernel
theorem dX7_lookAt_29 : decode cX7_lookAt 29 = .ok (.iconst 1, 1) := by decide +kernel
theorem dX7_lookAt_30 : decode cX7_lookAt 30 = .ok (.iload 6, 2) := by decide +kernel
theorem dX7_lookAt_32 : decode cX7_lookAt 32 = .ok (.ishl, 1) := by decide +kernel
theorem dX7_lookAt_33 : decode cX7_lookAt 33 = .ok (.iconst (-1), 1) := by decide +kernel
theorem dX7_lookAt_34 : decode cX7_lookAt 34 = .ok (.ixor, 1) := by decide +kernel
theorem dX7_lookAt_35 : decode cX7_lookAt 35 = .ok (.iand, 1) := by decide +kernel
theorem dX7_lookAt_36 : decode cX7_lookAt 36 = .ok (.istore 7, 2) := by decide +kernel
theorem dX7_lookAt_38 : decode cX7_lookAt 38 = .ok (.aload_n 0, 1) := by decide +kernel
theorem dX7_lookAt_39 : decode cX7_lookAt 39 = .ok (.getfield 9, 3) := by decide +kernel
theorem dX7_lookAt_42 : decode cX7_lookAt 42 = .ok (.iload 6, 2) := by decide +kernel
theorem dX7_lookAt_44 : decode cX7_lookAt 44 = .ok (.aload_n 0, 1) := by decide +kernel
theorem dX7_lookAt_45 : decode cX7_lookAt 45 = .ok (.getfield 9, 3) := by decide +kernel
theorem dX7_lookAt_48 : decode cX7_lookAt 48 = .ok (.iload 6, 2) := by decide +kernel
theorem dX7_lookAt_50 : decode cX7_lookAt 50 = .ok (.invokestatic 46, 3) := by decide +kernel
theorem dX7_lookAt_53 : decode cX7_lookAt 53 = .ok (.iload 7, 2) := by decide +kernel
theorem dX7_lookAt_55 : decode cX7_lookAt 55 = .ok (.ior, 1) := by decide +kernel
theorem dX7_lookAt_56 : decode cX7_lookAt 56 = .ok (.invokestatic 58, 3) := by decide +kernel
theorem dX7_lookAt_59 : decode cX7_lookAt 59 = .ok (.iload_n 3, 1) := by decide +kernel
theorem dX7_lookAt_60 : decode cX7_lookAt 60 = .ok (.iconst 1, 1) := by decide +kernel
theorem dX7_lookAt_61 : decode cX7_lookAt 61 = .ok (.iload 6, 2) := by decide +kernel
theorem dX7_lookAt_63 : decode cX7_lookAt 63 = .ok (.ishl, 1) := by decide +kernel
theorem dX7_lookAt_64 : decode cX7_lookAt 64 = .ok (.ior, 1) := by decide +kernel
theorem dX7_lookAt_65 : decode cX7_lookAt 65 = .ok (.istore_n 3, 1) := by decide +kernel
theorem dX7_lookAt_66 : decode cX7_lookAt 66 = .ok (.aload_n 1, 1) := by decide +kernel
theorem dX7_lookAt_67 : decode cX7_lookAt 67 = .ok (.getfield 62, 3) := by decide +kernel
theorem dX7_lookAt_70 : decode cX7_lookAt 70 = .ok (.iload 4, 2) := by decide +kernel
theorem dX7_lookAt_72 : decode cX7_lookAt 72 = .ok (.invokestatic 46, 3) := by decide +kernel
theorem dX7_lookAt_75 : decode cX7_lookAt 75 = .ok (.istore 4, 2) := by decide +kernel
theorem dX7_lookAt_77 : decode cX7_lookAt 77 = .ok (.iinc 5 1, 3) := by decide +kernel
theorem dX7_lookAt_80 : decode cX7_lookAt 80 = .ok (.goto (-72), 3) := by decide +kernel
theorem dX7_lookAt_83 : decode cX7_lookAt 83 = .ok (.iconst 0, 1) := by decide +kernel
theorem dX7_lookAt_84 : decode cX7_lookAt 84 = .ok (.istore 5, 2) := by decide +kernel
theorem dX7_lookAt_86 : decode cX7_lookAt 86 = .ok (.iload 5, 2) := by decide +kernel
theorem dX7_lookAt_88 : decode cX7_lookAt 88 = .ok (.bipush 7, 2) := by decide +kernel
theorem dX7_lookAt_90 : decode cX7_lookAt 90 = .ok (.if_icmp .ge 45, 3) := by decide +kernel
theorem dX7_lookAt_93 : decode cX7_lookAt 93 = .ok (.iload_n 3, 1) := by decide +kernel
theorem dX7_lookAt_94 : decode cX7_lookAt 94 = .ok (.iload 5, 2) := by decide +kernel
theorem dX7_lookAt_96 : decode cX7_lookAt 96 = .ok (.ishr, 1) := by decide +kernel
theorem dX7_lookAt_97 : decode cX7_lookAt 97 = .ok (.iconst 1, 1) := by decide +kernel
theorem dX7_lookAt_98 : decode cX7_lookAt 98 = .ok (.iand, 1) := by decide +kernel
theorem dX7_lookAt_99 : decode cX7_lookAt 99 = .ok (.ifCond .eq 30, 3) := by decide +kernel
theorem dX7_lookAt_102 : decode cX7_lookAt 102 = .ok (.aload_n 0, 1) := by decide +kernel
theorem dX7_lookAt_103 : decode cX7_lookAt 103 = .ok (.getfield 15, 3) := by decide +kernel
theorem dX7_lookAt_106 : decode cX7_lookAt 106 = .ok (.iload 5, 2) := by decide +kernel
theorem dX7_lookAt_108 : decode cX7_lookAt 108 = .ok (.aload_n 0, 1) := by decide +kernel
theorem dX7_lookAt_109 : decode cX7_lookAt 109 = .ok (.getfield 15, 3) := by decide +kernel
theorem dX7_lookAt_112 : decode cX7_lookAt 112 = .ok (.iload 5, 2) := by decide +kernel
theorem dX7_lookAt_114 : decode cX7_lookAt 114 = .ok (.invokestatic 46, 3) := by decide +kernel
theorem dX7_lookAt_117 : decode cX7_lookAt 117 = .ok (.iload_n 3, 1) := by decide +kernel
theorem dX7_lookAt_118 : decode cX7_lookAt 118 = .ok (.iconst 1, 1) := by decide +kernel
theorem dX7_lookAt_119 : decode cX7_lookAt 119 = .ok (.iload 5, 2) := by decide +kernel
theorem dX7_lookAt_121 : decode cX7_lookAt 121 = .ok (.ishl, 1) := by decide +kernel
theorem dX7_lookAt_122 : decode cX7_lookAt 122 = .ok (.iconst (-1), 1) := by decide +kernel
theorem dX7_lookAt_123 : decode cX7_lookAt 123 = .ok (.ixor, 1) := by decide +kernel
theorem dX7_lookAt_124 : decode cX7_lookAt 124 = .ok (.iand, 1) := by decide +kernel
theorem dX7_lookAt_125 : decode cX7_lookAt 125 = .ok (.ior, 1) := by decide +kernel
theorem dX7_lookAt_126 : decode cX7_lookAt 126 = .ok (.invokestatic 58, 3) := by decide +kernel
theorem dX7_lookAt_129 : decode cX7_lookAt 129 = .ok (.iinc 5 1, 3) := by decide +kernel
theorem dX7_lookAt_132 : decode cX7_lookAt 132 = .ok (.goto (-46), 3) := by decide +kernel
theorem dX7_lookAt_135 : decode cX7_lookAt 135 = .ok (.return_, 1) := by decide +kernel
theorem dX7_countOrders_0 : decode cX7_countOrders 0 = .ok (.aload_n 0, 1) := by decide +kernel
theorem dX7_countOrders_1 : decode cX7_countOrders 1 = .ok (.getfield 24, 3) := by decide +kernel
theorem dX7_countOrders_4 : decode cX7_countOrders 4 = .ok (.iconst 0, 1) := by decide +kernel
theorem dX7_countOrders_5 : decode cX7_countOrders 5 = .ok (.invokestatic 37, 3) := by decide +kernel
theorem dX7_countOrders_8 : decode cX7_countOrders 8 = .ok (.aload_n 0, 1) := by decide +kernel
theorem dX7_countOrders_9 : decode cX7_countOrders 9 = .ok (.getfield 24, 3) := by decide +kernel
theorem dX7_countOrders_12 : decode cX7_countOrders 12 = .ok (.iconst 0, 1) := by decide +kernel
theorem dX7_countOrders_13 : decode cX7_countOrders 13 = .ok (.iconst 1, 1) := by decide +kernel
theorem dX7_countOrders_14 : decode cX7_countOrders 14 = .ok (.invokestatic 58, 3) := by decide +kernel
theorem dX7_countOrders_17 : decode cX7_countOrders 17 = .ok (.iconst 0, 1) := by decide +kernel
theorem dX7_countOrders_18 : decode cX7_countOrders 18 = .ok (.istore_n 1, 1) := by decide +kernel
theorem dX7_countOrders_19 : decode cX7_countOrders 19 = .ok (.iload_n 1, 1) := by decide +kernel
theorem dX7_countOrders_20 : decode cX7_countOrders 20 = .ok (.aload_n 0, 1) := by decide +kernel
theorem dX7_countOrders_21 : decode cX7_countOrders 21 = .ok (.getfield 24, 3) := by decide +kernel
theorem dX7_countOrders_24 : decode cX7_countOrders 24 = .ok (.arraylength, 1) := by decide +kernel
theorem dX7_countOrders_25 : decode cX7_countOrders 25 = .ok (.if_icmp .ge 96, 3) := by decide +kernel
theorem dX7_countOrders_28 : decode cX7_countOrders 28 = .ok (.iconst 0, 1) := by decide +kernel
theorem dX7_countOrders_29 : decode cX7_countOrders 29 = .ok (.istore_n 2, 1) := by decide +kernel
theorem dX7_countOrders_30 : decode cX7_countOrders 30 = .ok (.iload_n 2, 1) := by decide +kernel
theorem dX7_countOrders_31 : decode cX7_countOrders 31 = .ok (.bipush 7, 2) := by decide +kernel
theorem dX7_countOrders_33 : decode cX7_countOrders 33 = .ok (.if_icmp .ge 82, 3) := by decide +kernel
theorem dX7_countOrders_36 : decode cX7_countOrders 36 = .ok (.iload_n 1, 1) := by decide +kernel
theorem dX7_countOrders_37 : decode cX7_countOrders 37 = .ok (.iconst 1, 1) := by decide +kernel
theorem dX7_countOrders_38 : decode cX7_countOrders 38 = .ok (.iload_n 2, 1) := by decide +kernel
theorem dX7_countOrders_39 : decode cX7_countOrders 39 = .ok (.ishl, 1) := by decide +kernel
theorem dX7_countOrders_40 : decode cX7_countOrders 40 = .ok (.ior, 1) := by decide +kernel
theorem dX7_countOrders_41 : decode cX7_countOrders 41 = .ok (.istore_n 3, 1) := by decide +kernel
theorem dX7_countOrders_42 : decode cX7_countOrders 42 = .ok (.aload_n 0, 1) := by decide +kernel
theorem dX7_countOrders_43 : decode cX7_countOrders 43 = .ok (.getfield 33, 3) := by decide +kernel
theorem dX7_countOrders_46 : decode cX7_countOrders 46 = .ok (.iload_n 1, 1) := by decide +kernel
theorem dX7_countOrders_47 : decode cX7_countOrders 47 = .ok (.iconst (-1), 1) := by decide +kernel
theorem dX7_countOrders_48 : decode cX7_countOrders 48 = .ok (.ixor, 1) := by decide +kernel
theorem dX7_countOrders_49 : decode cX7_countOrders 49 = .ok (.iand, 1) := by decide +kernel
theorem dX7_countOrders_50 : decode cX7_countOrders 50 = .ok (.iconst 1, 1) := by decide +kernel
theorem dX7_countOrders_51 : decode cX7_countOrders 51 = .ok (.iload_n 2, 1) := by decide +kernel
theorem dX7_countOrders_52 : decode cX7_countOrders 52 = .ok (.ishl, 1) := by decide +kernel
theorem dX7_countOrders_53 : decode cX7_countOrders 53 = .ok (.iand, 1) := by decide +kernel
theorem dX7_countOrders_54 : decode cX7_countOrders 54 = .ok (.ifCond .eq 7, 3) := by decide +kernel
theorem dX7_countOrders_57 : decode cX7_countOrders 57 = .ok (.iconst 1, 1) := by decide +kernel
theorem dX7_countOrders_58 : decode cX7_countOrders 58 = .ok (.goto 4, 3) := by decide +kernel
theorem dX7_countOrders_61 : decode cX7_countOrders 61 = .ok (.iconst 0, 1) := by decide +kernel
theorem dX7_countOrders_62 : decode cX7_countOrders 62 = .ok (.istore 4, 2) := by decide +kernel
theorem dX7_countOrders_64 : decode cX7_countOrders 64 = .ok (.iload 4, 2) := by decide +kernel
theorem dX7_countOrders_66 : decode cX7_countOrders 66 = .ok (.ifCond .eq 43, 3) := by decide +kernel
theorem dX7_countOrders_69 : decode cX7_countOrders 69 = .ok (.aload_n 0, 1) := by decide +kernel
theorem dX7_countOrders_70 : decode cX7_countOrders 70 = .ok (.getfield 9, 3) := by decide +kernel
theorem dX7_countOrders_73 : decode cX7_countOrders 73 = .ok (.iload_n 2, 1) := by decide +kernel
theorem dX7_countOrders_74 : decode cX7_countOrders 74 = .ok (.invokestatic 46, 3) := by decide +kernel
theorem dX7_countOrders_77 : decode cX7_countOrders 77 = .ok (.iload_n 1, 1) := by decide +kernel
theorem dX7_countOrders_78 : decode cX7_countOrders 78 = .ok (.iconst (-1), 1) := by decide +kernel
theorem dX7_countOrders_79 : decode cX7_countOrders 79 = .ok (.ixor, 1) := by decide +kernel
theorem dX7_countOrders_80 : decode cX7_countOrders 80 = .ok (.iand, 1) := by decide +kernel
theorem dX7_countOrders_81 : decode cX7_countOrders 81 = .ok (.ifCond .ne 28, 3) := by decide +kernel
theorem dX7_countOrders_84 : decode cX7_countOrders 84 = .ok (.aload_n 0, 1) := by decide +kernel
theorem dX7_countOrders_85 : decode cX7_countOrders 85 = .ok (.getfield 24, 3) := by decide +kernel
theorem dX7_countOrders_88 : decode cX7_countOrders 88 = .ok (.iload_n 3, 1) := by decide +kernel
theorem dX7_countOrders_89 : decode cX7_countOrders 89 = .ok (.aload_n 0, 1) := by decide +kernel
theorem dX7_countOrders_90 : decode cX7_countOrders 90 = .ok (.getfield 24, 3) := by decide +kernel
theorem dX7_countOrders_93 : decode cX7_countOrders 93 = .ok (.iload_n 3, 1) := by decide +kernel
theorem dX7_countOrders_94 : decode cX7_countOrders 94 = .ok (.invokestatic 46, 3) := by decide +kernel
theorem dX7_countOrders_97 : decode cX7_countOrders 97 = .ok (.aload_n 0, 1) := by decide +kernel
theorem dX7_countOrders_98 : decode cX7_countOrders 98 = .ok (.getfield 24, 3) := by decide +kernel
theorem dX7_countOrders_101 : decode cX7_countOrders 101 = .ok (.iload_n 1, 1) := by decide +kernel
theorem dX7_countOrders_102 : decode cX7_countOrders 102 = .ok (.invokestatic 46, 3) := by decide +kernel
theorem dX7_countOrders_105 : decode cX7_countOrders 105 = .ok (.iadd, 1) := by decide +kernel
theorem dX7_countOrders_106 : decode cX7_countOrders 106 = .ok (.invokestatic 58, 3) := by decide +kernel
theorem dX7_countOrders_109 : decode cX7_countOrders 109 = .ok (.iinc 2 1, 3) := by decide +kernel
theorem dX7_countOrders_112 : decode cX7_countOrders 112 = .ok (.goto (-82), 3) := by decide +kernel
theorem dX7_countOrders_115 : decode cX7_countOrders 115 = .ok (.iinc 1 1, 3) := by decide +kernel
theorem dX7_countOrders_118 : decode cX7_countOrders 118 = .ok (.goto (-99), 3) := by decide +kernel
theorem dX7_countOrders_121 : decode cX7_countOrders 121 = .ok (.aload_n 0, 1) := by decide +kernel
theorem dX7_countOrders_122 : decode cX7_countOrders 122 = .ok (.getfield 24, 3) := by decide +kernel
theorem dX7_countOrders_125 : decode cX7_countOrders 125 = .ok (.aload_n 0, 1) := by decide +kernel
theorem dX7_countOrders_126 : decode cX7_countOrders 126 = .ok (.getfield 33, 3) := by decide +kernel
theorem dX7_countOrders_129 : decode cX7_countOrders 129 = .ok (.invokestatic 46, 3) := by decide +kernel
theorem dX7_countOrders_132 : decode cX7_countOrders 132 = .ok (.ireturn, 1) := by decide +kernel
theorem dX7_findOrder_0 : decode cX7_findOrder 0 = .ok (.aload_n 0, 1) := by decide +kernel
theorem dX7_findOrder_1 : decode cX7_findOrder 1 = .ok (.getfield 33, 3) := by decide +kernel
theorem dX7_findOrder_4 : decode cX7_findOrder 4 = .ok (.iload_n 1, 1) := by decide +kernel
theorem dX7_findOrder_5 : decode cX7_findOrder 5 = .ok (.iconst (-1), 1) := by decide +kernel
theorem dX7_findOrder_6 : decode cX7_findOrder 6 = .ok (.ixor, 1) := by decide +kernel
theorem dX7_findOrder_7 : decode cX7_findOrder 7 = .ok (.iand, 1) := by decide +kernel
theorem dX7_findOrder_8 : decode cX7_findOrder 8 = .ok (.istore_n 2, 1) := by decide +kernel
theorem dX7_findOrder_9 : decode cX7_findOrder 9 = .ok (.iconst 0, 1) := by decide +kernel
theorem dX7_findOrder_10 : decode cX7_findOrder 10 = .ok (.istore_n 3, 1) := by decide +kernel
theorem dX7_findOrder_11 : decode cX7_findOrder 11 = .ok (.iload_n 3, 1) := by decide +kernel
theorem dX7_findOrder_12 : decode cX7_findOrder 12 = .ok (.bipush 7, 2) := by decide +kernel
theorem dX7_findOrder_14 : decode cX7_findOrder 14 = .ok (.if_icmp .ge 47, 3) := by decide +kernel
theorem dX7_findOrder_17 : decode cX7_findOrder 17 = .ok (.iload_n 2, 1) := by decide +kernel
theorem dX7_findOrder_18 : decode cX7_findOrder 18 = .ok (.ifCond .eq 43, 3) := by decide +kernel
theorem dX7_findOrder_21 : decode cX7_findOrder 21 = .ok (.aload_n 0, 1) := by decide +kernel
theorem dX7_findOrder_22 : decode cX7_findOrder 22 = .ok (.iload_n 2, 1) := by decide +kernel
theorem dX7_findOrder_23 : decode cX7_findOrder 23 = .ok (.invokevirtual 65, 3) := by decide +kernel
theorem dX7_findOrder_26 : decode cX7_findOrder 26 = .ok (.istore 4, 2) := by decide +kernel
theorem dX7_findOrder_28 : decode cX7_findOrder 28 = .ok (.iload 4, 2) := by decide +kernel
theorem dX7_findOrder_30 : decode cX7_findOrder 30 = .ok (.iconst (-1), 1) := by decide +kernel
theorem dX7_findOrder_31 : decode cX7_findOrder 31 = .ok (.if_icmp .ne 5, 3) := by decide +kernel
theorem dX7_findOrder_34 : decode cX7_findOrder 34 = .ok (.iconst 0, 1) := by decide +kernel
theorem dX7_findOrder_35 : decode cX7_findOrder 35 = .ok (.ireturn, 1) := by decide +kernel
theorem dX7_findOrder_36 : decode cX7_findOrder 36 = .ok (.aload_n 0, 1) := by decide +kernel
theorem dX7_findOrder_37 : decode cX7_findOrder 37 = .ok (.getfield 18, 3) := by decide +kernel
theorem dX7_findOrder_40 : decode cX7_findOrder 40 = .ok (.iload_n 3, 1) := by decide +kernel
theorem dX7_findOrder_41 : decode cX7_findOrder 41 = .ok (.iload 4, 2) := by decide +kernel
theorem dX7_findOrder_43 : decode cX7_findOrder 43 = .ok (.invokestatic 58, 3) := by decide +kernel
theorem dX7_findOrder_46 : decode cX7_findOrder 46 = .ok (.iload_n 2, 1) := by decide +kernel
theorem dX7_findOrder_47 : decode cX7_findOrder 47 = .ok (.iconst 1, 1) := by decide +kernel
theorem dX7_findOrder_48 : decode cX7_findOrder 48 = .ok (.iload 4, 2) := by decide +kernel
theorem dX7_findOrder_50 : decode cX7_findOrder 50 = .ok (.ishl, 1) := by decide +kernel
theorem dX7_findOrder_51 : decode cX7_findOrder 51 = .ok (.iconst (-1), 1) := by decide +kernel
theorem dX7_findOrder_52 : decode cX7_findOrder 52 = .ok (.ixor, 1) := by decide +kernel
theorem dX7_findOrder_53 : decode cX7_findOrder 53 = .ok (.iand, 1) := by decide +kernel
theorem dX7_findOrder_54 : decode cX7_findOrder 54 = .ok (.istore_n 2, 1) := by decide +kernel
theorem dX7_findOrder_55 : decode cX7_findOrder 55 = .ok (.iinc 3 1, 3) := by decide +kernel
theorem dX7_findOrder_58 : decode cX7_findOrder 58 = .ok (.goto (-47), 3) := by decide +kernel
theorem dX7_findOrder_61 : decode cX7_findOrder 61 = .ok (.iconst 1, 1) := by decide +kernel
theorem dX7_findOrder_62 : decode cX7_findOrder 62 = .ok (.ireturn, 1) := by decide +kernel
theorem dX7_firstFree_0 : decode cX7_firstFree 0 = .ok (.iconst 0, 1) := by decide +kernel
theorem dX7_firstFree_1 : decode cX7_firstFree 1 = .ok (.istore_n 2, 1) := by decide +kernel
theorem dX7_firstFree_2 : decode cX7_firstFree 2 = .ok (.iload_n 2, 1) := by decide +kernel
theorem dX7_firstFree_3 : decode cX7_firstFree 3 = .ok (.bipush 7, 2) := by decide +kernel
theorem dX7_firstFree_5 : decode cX7_firstFree 5 = .ok (.if_icmp .ge 32, 3) := by decide +kernel
theorem dX7_firstFree_8 : decode cX7_firstFree 8 = .ok (.iload_n 1, 1) := by decide +kernel
theorem dX7_firstFree_9 : decode cX7_firstFree 9 = .ok (.iload_n 2, 1) := by decide +kernel
theorem dX7_firstFree_10 : decode cX7_firstFree 10 = .ok (.ishr, 1) := by decide +kernel
theorem dX7_firstFree_11 : decode cX7_firstFree 11 = .ok (.iconst 1, 1) := by decide +kernel
theorem dX7_firstFree_12 : decode cX7_firstFree 12 = .ok (.iand, 1) := by decide +kernel
theorem dX7_firstFree_13 : decode cX7_firstFree 13 = .ok (.ifCond .eq 18, 3) := by decide +kernel
theorem dX7_firstFree_16 : decode cX7_firstFree 16 = .ok (.aload_n 0, 1) := by decide +kernel
theorem dX7_firstFree_17 : decode cX7_firstFree 17 = .ok (.getfield 9, 3) := by decide +kernel
theorem dX7_firstFree_20 : decode cX7_firstFree 20 = .ok (.iload_n 2, 1) := by decide +kernel
theorem dX7_firstFree_21 : decode cX7_firstFree 21 = .ok (.invokestatic 46, 3) := by decide +kernel
theorem dX7_firstFree_24 : decode cX7_firstFree 24 = .ok (.iload_n 1, 1) := by decide +kernel
theorem dX7_firstFree_25 : decode cX7_firstFree 25 = .ok (.iand, 1) := by decide +kernel
theorem dX7_firstFree_26 : decode cX7_firstFree 26 = .ok (.ifCond .ne 5, 3) := by decide +kernel
theorem dX7_firstFree_29 : decode cX7_firstFree 29 = .ok (.iload_n 2, 1) := by decide +kernel
theorem dX7_firstFree_30 : decode cX7_firstFree 30 = .ok (.ireturn, 1) := by decide +kernel
theorem dX7_firstFree_31 : decode cX7_firstFree 31 = .ok (.iinc 2 1, 3) := by decide +kernel
theorem dX7_firstFree_34 : decode cX7_firstFree 34 = .ok (.goto (-32), 3) := by decide +kernel
theorem dX7_firstFree_37 : decode cX7_firstFree 37 = .ok (.iconst (-1), 1) := by decide +kernel
theorem dX7_firstFree_38 : decode cX7_firstFree 38 = .ok (.ireturn, 1) := by decide +kernel
theorem dX7_fewestCuts_0 : decode cX7_fewestCuts 0 = .ok (.aload_n 0, 1) := by decide +kernel
theorem dX7_fewestCuts_1 : decode cX7_fewestCuts 1 = .ok (.getfield 33, 3) := by decide +kernel
theorem dX7_fewestCuts_4 : decode cX7_fewestCuts 4 = .ok (.istore_n 3, 1) := by decide +kernel
theorem dX7_fewestCuts_5 : decode cX7_fewestCuts 5 = .ok (.iconst 0, 1) := by decide +kernel
theorem dX7_fewestCuts_6 : decode cX7_fewestCuts 6 = .ok (.istore 4, 2) := by decide +kernel
theorem dX7_fewestCuts_8 : decode cX7_fewestCuts 8 = .ok (.iload 4, 2) := by decide +kernel
theorem dX7_fewestCuts_10 : decode cX7_fewestCuts 10 = .ok (.sipush 128, 3) := by decide +kernel
theorem dX7_fewestCuts_13 : decode cX7_fewestCuts 13 = .ok (.if_icmp .ge 44, 3) := by decide +kernel
theorem dX7_fewestCuts_16 : decode cX7_fewestCuts 16 = .ok (.iload 4, 2) := by decide +kernel
theorem dX7_fewestCuts_18 : decode cX7_fewestCuts 18 = .ok (.aload_n 0, 1) := by decide +kernel
theorem dX7_fewestCuts_19 : decode cX7_fewestCuts 19 = .ok (.getfield 33, 3) := by decide +kernel
theorem dX7_fewestCuts_22 : decode cX7_fewestCuts 22 = .ok (.iconst (-1), 1) := by decide +kernel
theorem dX7_fewestCuts_23 : decode cX7_fewestCuts 23 = .ok (.ixor, 1) := by decide +kernel
theorem dX7_fewestCuts_24 : decode cX7_fewestCuts 24 = .ok (.iand, 1) := by decide +kernel
theorem dX7_fewestCuts_25 : decode cX7_fewestCuts 25 = .ok (.ifCond .ne 26, 3) := by decide +kernel
theorem dX7_fewestCuts_28 : decode cX7_fewestCuts 28 = .ok (.aload_n 0, 1) := by decide +kernel
theorem dX7_fewestCuts_29 : decode cX7_fewestCuts 29 = .ok (.iload 4, 2) := by decide +kernel
theorem dX7_fewestCuts_31 : decode cX7_fewestCuts 31 = .ok (.invokevirtual 68, 3) := by decide +kernel
theorem dX7_fewestCuts_34 : decode cX7_fewestCuts 34 = .ok (.ifCond .eq 17, 3) := by decide +kernel
theorem dX7_fewestCuts_37 : decode cX7_fewestCuts 37 = .ok (.aload_n 1, 1) := by decide +kernel
theorem dX7_fewestCuts_38 : decode cX7_fewestCuts 38 = .ok (.aload_n 2, 1) := by decide +kernel
theorem dX7_fewestCuts_39 : decode cX7_fewestCuts 39 = .ok (.iload 4, 2) := by decide +kernel
theorem dX7_fewestCuts_41 : decode cX7_fewestCuts 41 = .ok (.iload_n 3, 1) := by decide +kernel
theorem dX7_fewestCuts_42 : decode cX7_fewestCuts 42 = .ok (.invokestatic 72, 3) := by decide +kernel
theorem dX7_fewestCuts_45 : decode cX7_fewestCuts 45 = .ok (.ifCond .eq 6, 3) := by decide +kernel
theorem dX7_fewestCuts_48 : decode cX7_fewestCuts 48 = .ok (.iload 4, 2) := by decide +kernel
theorem dX7_fewestCuts_50 : decode cX7_fewestCuts 50 = .ok (.istore_n 3, 1) := by decide +kernel
theorem dX7_fewestCuts_51 : decode cX7_fewestCuts 51 = .ok (.iinc 4 1, 3) := by decide +kernel
theorem dX7_fewestCuts_54 : decode cX7_fewestCuts 54 = .ok (.goto (-46), 3) := by decide +kernel
theorem dX7_fewestCuts_57 : decode cX7_fewestCuts 57 = .ok (.iload_n 3, 1) := by decide +kernel
theorem dX7_fewestCuts_58 : decode cX7_fewestCuts 58 = .ok (.ireturn, 1) := by decide +kernel
theorem dX7_isLess_0 : decode cX7_isLess 0 = .ok (.iload_n 2, 1) := by decide +kernel
theorem dX7_isLess_1 : decode cX7_isLess 1 = .ok (.invokestatic 76, 3) := by decide +kernel
theorem dX7_isLess_4 : decode cX7_isLess 4 = .ok (.iload_n 3, 1) := by decide +kernel
theorem dX7_isLess_5 : decode cX7_isLess 5 = .ok (.invokestatic 76, 3) := by decide +kernel
theorem dX7_isLess_8 : decode cX7_isLess 8 = .ok (.isub, 1) := by decide +kernel
theorem dX7_isLess_9 : decode cX7_isLess 9 = .ok (.istore 4, 2) := by decide +kernel
theorem dX7_isLess_11 : decode cX7_isLess 11 = .ok (.iload 4, 2) := by decide +kernel
theorem dX7_isLess_13 : decode cX7_isLess 13 = .ok (.ifCond .ne 18, 3) := by decide +kernel
theorem dX7_isLess_16 : decode cX7_isLess 16 = .ok (.aload_n 1, 1) := by decide +kernel
theorem dX7_isLess_17 : decode cX7_isLess 17 = .ok (.aload_n 0, 1) := by decide +kernel
theorem dX7_isLess_18 : decode cX7_isLess 18 = .ok (.iload_n 2, 1) := by decide +kernel
theorem dX7_isLess_19 : decode cX7_isLess 19 = .ok (.invokevirtual 81, 3) := by decide +kernel
theorem dX7_isLess_22 : decode cX7_isLess 22 = .ok (.aload_n 1, 1) := by decide +kernel
theorem dX7_isLess_23 : decode cX7_isLess 23 = .ok (.aload_n 0, 1) := by decide +kernel
theorem dX7_isLess_24 : decode cX7_isLess 24 = .ok (.iload_n 3, 1) := by decide +kernel
theorem dX7_isLess_25 : decode cX7_isLess 25 = .ok (.invokevirtual 81, 3) := by decide +kernel
theorem dX7_isLess_28 : decode cX7_isLess 28 = .ok (.isub, 1) := by decide +kernel
theorem dX7_isLess_29 : decode cX7_isLess 29 = .ok (.istore 4, 2) := by decide +kernel
theorem dX7_isLess_31 : decode cX7_isLess 31 = .ok (.iload 4, 2) := by decide +kernel
theorem dX7_isLess_33 : decode cX7_isLess 33 = .ok (.ifCond .ge 7, 3) := by decide +kernel
theorem dX7_isLess_36 : decode cX7_isLess 36 = .ok (.iconst 1, 1) := by decide +kernel
theorem dX7_isLess_37 : decode cX7_isLess 37 = .ok (.goto 4, 3) := by decide +kernel
theorem dX7_isLess_40 : decode cX7_isLess 40 = .ok (.iconst 0, 1) := by decide +kernel
theorem dX7_isLess_41 : decode cX7_isLess 41 = .ok (.ireturn, 1) := by decide +kernel
theorem dX7_widened_0 : decode cX7_widened 0 = .ok (.iload_n 1, 1) := by decide +kernel
theorem dX7_widened_1 : decode cX7_widened 1 = .ok (.istore_n 2, 1) := by decide +kernel
theorem dX7_widened_2 : decode cX7_widened 2 = .ok (.iconst 0, 1) := by decide +kernel
theorem dX7_widened_3 : decode cX7_widened 3 = .ok (.istore_n 3, 1) := by decide +kernel
theorem dX7_widened_4 : decode cX7_widened 4 = .ok (.iload_n 3, 1) := by decide +kernel
theorem dX7_widened_5 : decode cX7_widened 5 = .ok (.bipush 7, 2) := by decide +kernel
theorem dX7_widened_7 : decode cX7_widened 7 = .ok (.if_icmp .ge 28, 3) := by decide +kernel
theorem dX7_widened_10 : decode cX7_widened 10 = .ok (.iload_n 1, 1) := by decide +kernel
theorem dX7_widened_11 : decode cX7_widened 11 = .ok (.iload_n 3, 1) := by decide +kernel
theorem dX7_widened_12 : decode cX7_widened 12 = .ok (.ishr, 1) := by decide +kernel
theorem dX7_widened_13 : decode cX7_widened 13 = .ok (.iconst 1, 1) := by decide +kernel
theorem dX7_widened_14 : decode cX7_widened 14 = .ok (.iand, 1) := by decide +kernel
theorem dX7_widened_15 : decode cX7_widened 15 = .ok (.ifCond .eq 14, 3) := by decide +kernel
theorem dX7_widened_18 : decode cX7_widened 18 = .ok (.iload_n 2, 1) := by decide +kernel
theorem dX7_widened_19 : decode cX7_widened 19 = .ok (.aload_n 0, 1) := by decide +kernel
theorem dX7_widened_20 : decode cX7_widened 20 = .ok (.getfield 15, 3) := by decide +kernel
theorem dX7_widened_23 : decode cX7_widened 23 = .ok (.iload_n 3, 1) := by decide +kernel
theorem dX7_widened_24 : decode cX7_widened 24 = .ok (.invokestatic 46, 3) := by decide +kernel
theorem dX7_widened_27 : decode cX7_widened 27 = .ok (.ior, 1) := by decide +kernel
theorem dX7_widened_28 : decode cX7_widened 28 = .ok (.istore_n 2, 1) := by decide +kernel
theorem dX7_widened_29 : decode cX7_widened 29 = .ok (.iinc 3 1, 3) := by decide +kernel
theorem dX7_widened_32 : decode cX7_widened 32 = .ok (.goto (-28), 3) := by decide +kernel
theorem dX7_widened_35 : decode cX7_widened 35 = .ok (.iload_n 2, 1) := by decide +kernel
theorem dX7_widened_36 : decode cX7_widened 36 = .ok (.ireturn, 1) := by decide +kernel
theorem dX7_countLinks_0 : decode cX7_countLinks 0 = .ok (.iconst 1, 1) := by decide +kernel
theorem dX7_countLinks_1 : decode cX7_countLinks 1 = .ok (.iload_n 1, 1) := by decide +kernel
theorem dX7_countLinks_2 : decode cX7_countLinks 2 = .ok (.ishl, 1) := by decide +kernel
theorem dX7_countLinks_3 : decode cX7_countLinks 3 = .ok (.istore_n 3, 1) := by decide +kernel
theorem dX7_countLinks_4 : decode cX7_countLinks 4 = .ok (.iconst 1, 1) := by decide +kernel
theorem dX7_countLinks_5 : decode cX7_countLinks 5 = .ok (.istore 4, 2) := by decide +kernel
theorem dX7_countLinks_7 : decode cX7_countLinks 7 = .ok (.iload 4, 2) := by decide +kernel
theorem dX7_countLinks_9 : decode cX7_countLinks 9 = .ok (.bipush 7, 2) := by decide +kernel
theorem dX7_countLinks_11 : decode cX7_countLinks 11 = .ok (.if_icmp .ge 26, 3) := by decide +kernel
theorem dX7_countLinks_14 : decode cX7_countLinks 14 = .ok (.aload_n 0, 1) := by decide +kernel
theorem dX7_countLinks_15 : decode cX7_countLinks 15 = .ok (.iload_n 3, 1) := by decide +kernel
theorem dX7_countLinks_16 : decode cX7_countLinks 16 = .ok (.invokevirtual 85, 3) := by decide +kernel
theorem dX7_countLinks_19 : decode cX7_countLinks 19 = .ok (.istore_n 3, 1) := by decide +kernel
theorem dX7_countLinks_20 : decode cX7_countLinks 20 = .ok (.iload_n 3, 1) := by decide +kernel
theorem dX7_countLinks_21 : decode cX7_countLinks 21 = .ok (.iload_n 2, 1) := by decide +kernel
theorem dX7_countLinks_22 : decode cX7_countLinks 22 = .ok (.ishr, 1) := by decide +kernel
theorem dX7_countLinks_23 : decode cX7_countLinks 23 = .ok (.iconst 1, 1) := by decide +kernel
theorem dX7_countLinks_24 : decode cX7_countLinks 24 = .ok (.iand, 1) := by decide +kernel
theorem dX7_countLinks_25 : decode cX7_countLinks 25 = .ok (.ifCond .eq 6, 3) := by decide +kernel
theorem dX7_countLinks_28 : decode cX7_countLinks 28 = .ok (.iload 4, 2) := by decide +kernel
theorem dX7_countLinks_30 : decode cX7_countLinks 30 = .ok (.ireturn, 1) := by decide +kernel
theorem dX7_countLinks_31 : decode cX7_countLinks 31 = .ok (.iinc 4 1, 3) := by decide +kernel
theorem dX7_countLinks_34 : decode cX7_countLinks 34 = .ok (.goto (-27), 3) := by decide +kernel
theorem dX7_countLinks_37 : decode cX7_countLinks 37 = .ok (.bipush (-2), 2) := by decide +kernel
theorem dX7_countLinks_39 : decode cX7_countLinks 39 = .ok (.ireturn, 1) := by decide +kernel
theorem dX7_countRounds_0 : decode cX7_countRounds 0 = .ok (.iconst 0, 1) := by decide +kernel
theorem dX7_countRounds_1 : decode cX7_countRounds 1 = .ok (.istore_n 1, 1) := by decide +kernel
theorem dX7_countRounds_2 : decode cX7_countRounds 2 = .ok (.iconst 0, 1) := by decide +kernel
theorem dX7_countRounds_3 : decode cX7_countRounds 3 = .ok (.istore_n 2, 1) := by decide +kernel
theorem dX7_countRounds_4 : decode cX7_countRounds 4 = .ok (.iconst 0, 1) := by decide +kernel
theorem dX7_countRounds_5 : decode cX7_countRounds 5 = .ok (.istore_n 3, 1) := by decide +kernel
theorem dX7_countRounds_6 : decode cX7_countRounds 6 = .ok (.iload_n 3, 1) := by decide +kernel
theorem dX7_countRounds_7 : decode cX7_countRounds 7 = .ok (.bipush 7, 2) := by decide +kernel
theorem dX7_countRounds_9 : decode cX7_countRounds 9 = .ok (.if_icmp .ge 55, 3) := by decide +kernel
theorem dX7_countRounds_12 : decode cX7_countRounds 12 = .ok (.aload_n 0, 1) := by decide +kernel
theorem dX7_countRounds_13 : decode cX7_countRounds 13 = .ok (.getfield 33, 3) := by decide +kernel
theorem dX7_countRounds_16 : decode cX7_countRounds 16 = .ok (.iload_n 2, 1) := by decide +kernel
theorem dX7_countRounds_17 : decode cX7_countRounds 17 = .ok (.iconst (-1), 1) := by decide +kernel
theorem dX7_countRounds_18 : decode cX7_countRounds 18 = .ok (.ixor, 1) := by decide +kernel
theorem dX7_countRounds_19 : decode cX7_countRounds 19 = .ok (.iand, 1) := by decide +kernel
theorem dX7_countRounds_20 : decode cX7_countRounds 20 = .ok (.iconst 1, 1) := by decide +kernel
theorem dX7_countRounds_21 : decode cX7_countRounds 21 = .ok (.iload_n 3, 1) := by decide +kernel
theorem dX7_countRounds_22 : decode cX7_countRounds 22 = .ok (.ishl, 1) := by decide +kernel
theorem dX7_countRounds_23 : decode cX7_countRounds 23 = .ok (.iand, 1) := by decide +kernel
theorem dX7_countRounds_24 : decode cX7_countRounds 24 = .ok (.ifCond .eq 34, 3) := by decide +kernel
theorem dX7_countRounds_27 : decode cX7_countRounds 27 = .ok (.iinc 1 1, 3) := by decide +kernel
theorem dX7_countRounds_30 : decode cX7_countRounds 30 = .ok (.iload_n 2, 1) := by decide +kernel
theorem dX7_countRounds_31 : decode cX7_countRounds 31 = .ok (.iconst 1, 1) := by decide +kernel
theorem dX7_countRounds_32 : decode cX7_countRounds 32 = .ok (.iload_n 3, 1) := by decide +kernel
theorem dX7_countRounds_33 : decode cX7_countRounds 33 = .ok (.ishl, 1) := by decide +kernel
theorem dX7_countRounds_34 : decode cX7_countRounds 34 = .ok (.ior, 1) := by decide +kernel
theorem dX7_countRounds_35 : decode cX7_countRounds 35 = .ok (.istore_n 2, 1) := by decide +kernel
theorem dX7_countRounds_36 : decode cX7_countRounds 36 = .ok (.iconst 0, 1) := by decide +kernel
theorem dX7_countRounds_37 : decode cX7_countRounds 37 = .ok (.istore 4, 2) := by decide +kernel
theorem dX7_countRounds_39 : decode cX7_countRounds 39 = .ok (.iload 4, 2) := by decide +kernel
theorem dX7_countRounds_41 : decode cX7_countRounds 41 = .ok (.bipush 7, 2) := by decide +kernel
theorem dX7_countRounds_43 : decode cX7_countRounds 43 = .ok (.if_icmp .ge 15, 3) := by decide +kernel
theorem dX7_countRounds_46 : decode cX7_countRounds 46 = .ok (.aload_n 0, 1) := by decide +kernel
theorem dX7_countRounds_47 : decode cX7_countRounds 47 = .ok (.iload_n 2, 1) := by decide +kernel
theorem dX7_countRounds_48 : decode cX7_countRounds 48 = .ok (.invokevirtual 85, 3) := by decide +kernel
theorem dX7_countRounds_51 : decode cX7_countRounds 51 = .ok (.istore_n 2, 1) := by decide +kernel
theorem dX7_countRounds_52 : decode cX7_countRounds 52 = .ok (.iinc 4 1, 3) := by decide +kernel
theorem dX7_countRounds_55 : decode cX7_countRounds 55 = .ok (.goto (-16), 3) := by decide +kernel
theorem dX7_countRounds_58 : decode cX7_countRounds 58 = .ok (.iinc 3 1, 3) := by decide +kernel
theorem dX7_countRounds_61 : decode cX7_countRounds 61 = .ok (.goto (-55), 3) := by decide +kernel
theorem dX7_countRounds_64 : decode cX7_countRounds 64 = .ok (.iload_n 1, 1) := by decide +kernel
theorem dX7_countRounds_65 : decode cX7_countRounds 65 = .ok (.ireturn, 1) := by decide +kernel
theorem dX7_mostCrowded_0 : decode cX7_mostCrowded 0 = .ok (.aload_n 0, 1) := by decide +kernel
theorem dX7_mostCrowded_1 : decode cX7_mostCrowded 1 = .ok (.getfield 21, 3) := by decide +kernel
theorem dX7_mostCrowded_4 : decode cX7_mostCrowded 4 = .ok (.iconst 0, 1) := by decide +kernel
theorem dX7_mostCrowded_5 : decode cX7_mostCrowded 5 = .ok (.invokestatic 37, 3) := by decide +kernel
theorem dX7_mostCrowded_8 : decode cX7_mostCrowded 8 = .ok (.iconst 0, 1) := by decide +kernel
theorem dX7_mostCrowded_9 : decode cX7_mostCrowded 9 = .ok (.istore_n 3, 1) := by decide +kernel
theorem dX7_mostCrowded_10 : decode cX7_mostCrowded 10 = .ok (.iload_n 3, 1) := by decide +kernel
theorem dX7_mostCrowded_11 : decode cX7_mostCrowded 11 = .ok (.aload_n 1, 1) := by decide +kernel
theorem dX7_mostCrowded_12 : decode cX7_mostCrowded 12 = .ok (.getfield 88, 3) := by decide +kernel
theorem dX7_mostCrowded_15 : decode cX7_mostCrowded 15 = .ok (.if_icmp .ge 27, 3) := by decide +kernel
theorem dX7_mostCrowded_18 : decode cX7_mostCrowded 18 = .ok (.aload_n 2, 1) := by decide +kernel
theorem dX7_mostCrowded_19 : decode cX7_mostCrowded 19 = .ok (.getfield 93, 3) := by decide +kernel
theorem dX7_mostCrowded_22 : decode cX7_mostCrowded 22 = .ok (.iload_n 3, 1) := by decide +kernel
theorem dX7_mostCrowded_23 : decode cX7_mostCrowded 23 = .ok (.invokestatic 46, 3) := by decide +kernel
theorem dX7_mostCrowded_26 : decode cX7_mostCrowded 26 = .ok (.ifCond .le 10, 3) := by decide +kernel
theorem dX7_mostCrowded_29 : decode cX7_mostCrowded 29 = .ok (.aload_n 0, 1) := by decide +kernel
theorem dX7_mostCrowded_30 : decode cX7_mostCrowded 30 = .ok (.aload_n 1, 1) := by decide +kernel
theorem dX7_mostCrowded_31 : decode cX7_mostCrowded 31 = .ok (.aload_n 2, 1) := by decide +kernel
theorem dX7_mostCrowded_32 : decode cX7_mostCrowded 32 = .ok (.iload_n 3, 1) := by decide +kernel
theorem dX7_mostCrowded_33 : decode cX7_mostCrowded 33 = .ok (.invokevirtual 96, 3) := by decide +kernel
theorem dX7_mostCrowded_36 : decode cX7_mostCrowded 36 = .ok (.iinc 3 1, 3) := by decide +kernel
theorem dX7_mostCrowded_39 : decode cX7_mostCrowded 39 = .ok (.goto (-29), 3) := by decide +kernel
theorem dX7_mostCrowded_42 : decode cX7_mostCrowded 42 = .ok (.iconst 0, 1) := by decide +kernel
theorem dX7_mostCrowded_43 : decode cX7_mostCrowded 43 = .ok (.istore_n 3, 1) := by decide +kernel
theorem dX7_mostCrowded_44 : decode cX7_mostCrowded 44 = .ok (.iconst 1, 1) := by decide +kernel
theorem dX7_mostCrowded_45 : decode cX7_mostCrowded 45 = .ok (.istore 4, 2) := by decide +kernel
theorem dX7_mostCrowded_47 : decode cX7_mostCrowded 47 = .ok (.iload 4, 2) := by decide +kernel
theorem dX7_mostCrowded_49 : decode cX7_mostCrowded 49 = .ok (.sipush 144, 3) := by decide +kernel
theorem dX7_mostCrowded_52 : decode cX7_mostCrowded 52 = .ok (.if_icmp .ge 38, 3) := by decide +kernel
theorem dX7_mostCrowded_55 : decode cX7_mostCrowded 55 = .ok (.aload_n 0, 1) := by decide +kernel
theorem dX7_mostCrowded_56 : decode cX7_mostCrowded 56 = .ok (.getfield 21, 3) := by decide +kernel
theorem dX7_mostCrowded_59 : decode cX7_mostCrowded 59 = .ok (.iload 4, 2) := by decide +kernel
theorem dX7_mostCrowded_61 : decode cX7_mostCrowded 61 = .ok (.invokestatic 46, 3) := by decide +kernel
theorem dX7_mostCrowded_64 : decode cX7_mostCrowded 64 = .ok (.invokestatic 76, 3) := by decide +kernel
theorem dX7_mostCrowded_67 : decode cX7_mostCrowded 67 = .ok (.aload_n 0, 1) := by decide +kernel
theorem dX7_mostCrowded_68 : decode cX7_mostCrowded 68 = .ok (.getfield 21, 3) := by decide +kernel
theorem dX7_mostCrowded_71 : decode cX7_mostCrowded 71 = .ok (.iload_n 3, 1) := by decide +kernel
theorem dX7_mostCrowded_72 : decode cX7_mostCrowded 72 = .ok (.invokestatic 46, 3) := by decide +kernel
theorem dX7_mostCrowded_75 : decode cX7_mostCrowded 75 = .ok (.invokestatic 76, 3) := by decide +kernel
theorem dX7_mostCrowded_78 : decode cX7_mostCrowded 78 = .ok (.if_icmp .le 6, 3) := by decide +kernel
theorem dX7_mostCrowded_81 : decode cX7_mostCrowded 81 = .ok (.iload 4, 2) := by decide +kernel
theorem dX7_mostCrowded_83 : decode cX7_mostCrowded 83 = .ok (.istore_n 3, 1) := by decide +kernel
theorem dX7_mostCrowded_84 : decode cX7_mostCrowded 84 = .ok (.iinc 4 1, 3) := by decide +kernel
theorem dX7_mostCrowded_87 : decode cX7_mostCrowded 87 = .ok (.goto (-40), 3) := by decide +kernel
theorem dX7_mostCrowded_90 : decode cX7_mostCrowded 90 = .ok (.iload_n 3, 1) := by decide +kernel
theorem dX7_mostCrowded_91 : decode cX7_mostCrowded 91 = .ok (.ireturn, 1) := by decide +kernel
theorem dX7_visit_0 : decode cX7_visit 0 = .ok (.aload_n 1, 1) := by decide +kernel
theorem dX7_visit_1 : decode cX7_visit 1 = .ok (.getfield 100, 3) := by decide +kernel
theorem dX7_visit_4 : decode cX7_visit 4 = .ok (.iload_n 3, 1) := by decide +kernel
theorem dX7_visit_5 : decode cX7_visit 5 = .ok (.invokestatic 46, 3) := by decide +kernel
theorem dX7_visit_8 : decode cX7_visit 8 = .ok (.bipush 12, 2) := by decide +kernel
theorem dX7_visit_10 : decode cX7_visit 10 = .ok (.imul, 1) := by decide +kernel
theorem dX7_visit_11 : decode cX7_visit 11 = .ok (.aload_n 1, 1) := by decide +kernel
theorem dX7_visit_12 : decode cX7_visit 12 = .ok (.getfield 103, 3) := by decide +kernel
theorem dX7_visit_15 : decode cX7_visit 15 = .ok (.iload_n 3, 1) := by decide +kernel
theorem dX7_visit_16 : decode cX7_visit 16 = .ok (.invokestatic 46, 3) := by decide +kernel
theorem dX7_visit_19 : decode cX7_visit 19 = .ok (.iadd, 1) := by decide +kernel
theorem dX7_visit_20 : decode cX7_visit 20 = .ok (.istore 4, 2) := by decide +kernel
theorem dX7_visit_22 : decode cX7_visit 22 = .ok (.aload_n 0, 1) := by decide +kernel
theorem dX7_visit_23 : decode cX7_visit 23 = .ok (.getfield 21, 3) := by decide +kernel
theorem dX7_visit_26 : decode cX7_visit 26 = .ok (.iload 4, 2) := by decide +kernel
theorem dX7_visit_28 : decode cX7_visit 28 = .ok (.aload_n 0, 1) := by decide +kernel
theorem dX7_visit_29 : decode cX7_visit 29 = .ok (.getfield 21, 3) := by decide +kernel
theorem dX7_visit_32 : decode cX7_visit 32 = .ok (.iload 4, 2) := by decide +kernel
theorem dX7_visit_34 : decode cX7_visit 34 = .ok (.invokestatic 46, 3) := by decide +kernel
theorem dX7_visit_37 : decode cX7_visit 37 = .ok (.iconst 1, 1) := by decide +kernel
theorem dX7_visit_38 : decode cX7_visit 38 = .ok (.iload_n 3, 1) := by decide +kernel
theorem dX7_visit_39 : decode cX7_visit 39 = .ok (.ishl, 1) := by decide +kernel
theorem dX7_visit_40 : decode cX7_visit 40 = .ok (.ior, 1) := by decide +kernel
theorem dX7_visit_41 : decode cX7_visit 41 = .ok (.invokestatic 58, 3) := by decide +kernel
theorem dX7_visit_44 : decode cX7_visit 44 = .ok (.iconst 0, 1) := by decide +kernel
theorem dX7_visit_45 : decode cX7_visit 45 = .ok (.istore 5, 2) := by decide +kernel
theorem dX7_visit_47 : decode cX7_visit 47 = .ok (.iload 5, 2) := by decide +kernel
theorem dX7_visit_49 : decode cX7_visit 49 = .ok (.aload_n 2, 1) := by decide +kernel
theorem dX7_visit_50 : decode cX7_visit 50 = .ok (.getfield 93, 3) := by decide +kernel
theorem dX7_visit_53 : decode cX7_visit 53 = .ok (.iload_n 3, 1) := by decide +kernel
theorem dX7_visit_54 : decode cX7_visit 54 = .ok (.invokestatic 46, 3) := by decide +kernel
theorem dX7_visit_57 : decode cX7_visit 57 = .ok (.if_icmp .ge 71, 3) := by decide +kernel
theorem dX7_visit_60 : decode cX7_visit 60 = .ok (.aload_n 2, 1) := by decide +kernel
theorem dX7_visit_61 : decode cX7_visit 61 = .ok (.getfield 106, 3) := by decide +kernel
theorem dX7_visit_64 : decode cX7_visit 64 = .ok (.iload_n 3, 1) := by decide +kernel
theorem dX7_visit_65 : decode cX7_visit 65 = .ok (.iload 5, 2) := by decide +kernel
theorem dX7_visit_67 : decode cX7_visit 67 = .ok (.invokestatic 109, 3) := by decide +kernel
theorem dX7_visit_70 : decode cX7_visit 70 = .ok (.invokestatic 46, 3) := by decide +kernel
theorem dX7_visit_73 : decode cX7_visit 73 = .ok (.istore 6, 2) := by decide +kernel
theorem dX7_visit_75 : decode cX7_visit 75 = .ok (.iload 4, 2) := by decide +kernel
theorem dX7_visit_77 : decode cX7_visit 77 = .ok (.getstatic 113, 3) := by decide +kernel
theorem dX7_visit_80 : decode cX7_visit 80 = .ok (.iload 6, 2) := by decide +kernel
theorem dX7_visit_82 : decode cX7_visit 82 = .ok (.invokestatic 46, 3) := by decide +kernel
theorem dX7_visit_85 : decode cX7_visit 85 = .ok (.bipush 12, 2) := by decide +kernel
theorem dX7_visit_87 : decode cX7_visit 87 = .ok (.imul, 1) := by decide +kernel
theorem dX7_visit_88 : decode cX7_visit 88 = .ok (.getstatic 116, 3) := by decide +kernel
theorem dX7_visit_91 : decode cX7_visit 91 = .ok (.iload 6, 2) := by decide +kernel
theorem dX7_visit_93 : decode cX7_visit 93 = .ok (.invokestatic 46, 3) := by decide +kernel
theorem dX7_visit_96 : decode cX7_visit 96 = .ok (.iadd, 1) := by decide +kernel
theorem dX7_visit_97 : decode cX7_visit 97 = .ok (.iadd, 1) := by decide +kernel
theorem dX7_visit_98 : decode cX7_visit 98 = .ok (.istore 4, 2) := by decide +kernel
theorem dX7_visit_100 : decode cX7_visit 100 = .ok (.aload_n 0, 1) := by decide +kernel
theorem dX7_visit_101 : decode cX7_visit 101 = .ok (.getfield 21, 3) := by decide +kernel
theorem dX7_visit_104 : decode cX7_visit 104 = .ok (.iload 4, 2) := by decide +kernel
theorem dX7_visit_106 : decode cX7_visit 106 = .ok (.aload_n 0, 1) := by decide +kernel
theorem dX7_visit_107 : decode cX7_visit 107 = .ok (.getfield 21, 3) := by decide +kernel
theorem dX7_visit_110 : decode cX7_visit 110 = .ok (.iload 4, 2) := by decide +kernel
theorem dX7_visit_112 : decode cX7_visit 112 = .ok (.invokestatic 46, 3) := by decide +kernel
theorem dX7_visit_115 : decode cX7_visit 115 = .ok (.iconst 1, 1) := by decide +kernel
theorem dX7_visit_116 : decode cX7_visit 116 = .ok (.iload_n 3, 1) := by decide +kernel
theorem dX7_visit_117 : decode cX7_visit 117 = .ok (.ishl, 1) := by decide +kernel
theorem dX7_visit_118 : decode cX7_visit 118 = .ok (.ior, 1) := by decide +kernel
theorem dX7_visit_119 : decode cX7_visit 119 = .ok (.invokestatic 58, 3) := by decide +kernel
theorem dX7_visit_122 : decode cX7_visit 122 = .ok (.iinc 5 1, 3) := by decide +kernel
theorem dX7_visit_125 : decode cX7_visit 125 = .ok (.goto (-78), 3) := by decide +kernel
theorem dX7_visit_128 : decode cX7_visit 128 = .ok (.return_, 1) := by decide +kernel
theorem dX8_init_0 : decode cX8_init 0 = .ok (.aload_n 0, 1) := by decide +kernel
theorem dX8_init_1 : decode cX8_init 1 = .ok (.invokespecial 3, 3) := by decide +kernel
theorem dX8_init_4 : decode cX8_init 4 = .ok (.aload_n 0, 1) := by decide +kernel
theorem dX8_init_5 : decode cX8_init 5 = .ok (.sipush 402, 3) := by decide +kernel
theorem dX8_init_8 : decode cX8_init 8 = .ok (.newarray .int, 2) := by decide +kernel
theorem dX8_init_10 : decode cX8_init 10 = .ok (.putfield 9, 3) := by decide +kernel
theorem dX8_init_13 : decode cX8_init 13 = .ok (.aload_n 0, 1) := by decide +kernel
theorem dX8_init_14 : decode cX8_init 14 = .ok (.sipush 402, 3) := by decide +kernel
theorem dX8_init_17 : decode cX8_init 17 = .ok (.newarray .int, 2) := by decide +kernel
theorem dX8_init_19 : decode cX8_init 19 = .ok (.putfield 15, 3) := by decide +kernel
theorem dX8_init_22 : decode cX8_init 22 = .ok (.aload_n 0, 1) := by decide +kernel
theorem dX8_init_23 : decode cX8_init 23 = .ok (.sipush 402, 3) := by decide +kernel
theorem dX8_init_26 : decode cX8_init 26 = .ok (.newarray .int, 2) := by decide +kernel
theorem dX8_init_28 : decode cX8_init 28 = .ok (.putfield 18, 3) := by decide +kernel
theorem dX8_init_31 : decode cX8_init 31 = .ok (.aload_n 0, 1) := by decide +kernel
theorem dX8_init_32 : decode cX8_init 32 = .ok (.sipush 402, 3) := by decide +kernel
theorem dX8_init_35 : decode cX8_init 35 = .ok (.newarray .long, 2) := by decide +kernel
theorem dX8_init_37 : decode cX8_init 37 = .ok (.putfield 21, 3) := by decide +kernel
theorem dX8_init_40 : decode cX8_init 40 = .ok (.aload_n 0, 1) := by decide +kernel
theorem dX8_init_41 : decode cX8_init 41 = .ok (.bipush 17, 2) := by decide +kernel
theorem dX8_init_43 : decode cX8_init 43 = .ok (.newarray .long, 2) := by decide +kernel
theorem dX8_init_45 : decode cX8_init 45 = .ok (.putfield 25, 3) := by decide +kernel
theorem dX8_init_48 : decode cX8_init 48 = .ok (.iconst 0, 1) := by decide +kernel
theorem dX8_init_49 : decode cX8_init 49 = .ok (.istore_n 1, 1) := by decide +kernel
theorem dX8_init_50 : decode cX8_init 50 = .ok (.lconst 0, 1) := by decide +kernel
theorem dX8_init_51 : decode cX8_init 51 = .ok (.lstore_n 2, 1) := by decide +kernel
theorem dX8_init_52 : decode cX8_init 52 = .ok (.iconst 0, 1) := by decide +kernel
theorem dX8_init_53 : decode cX8_init 53 = .ok (.istore 4, 2) := by decide +kernel
theorem dX8_init_55 : decode cX8_init 55 = .ok (.iload 4, 2) := by decide +kernel
theorem dX8_init_57 : decode cX8_init 57 = .ok (.ldc 28, 2) := by decide +kernel
theorem dX8_init_59 : decode cX8_init 59 = .ok (.invokevirtual 30, 3) := by decide +kernel
theorem dX8_init_62 : decode cX8_init 62 = .ok (.if_icmp .ge 65, 3) := by decide +kernel
theorem dX8_init_65 : decode cX8_init 65 = .ok (.ldc 28, 2) := by decide +kernel
theorem dX8_init_67 : decode cX8_init 67 = .ok (.iload 4, 2) := by decide +kernel
theorem dX8_init_69 : decode cX8_init 69 = .ok (.invokevirtual 36, 3) := by decide +kernel
theorem dX8_init_72 : decode cX8_init 72 = .ok (.bipush 32, 2) := by decide +kernel
theorem dX8_init_74 : decode cX8_init 74 = .ok (.if_icmp .eq 26, 3) := by decide +kernel
theorem dX8_init_77 : decode cX8_init 77 = .ok (.lload_n 2, 1) := by decide +kernel
theorem dX8_init_78 : decode cX8_init 78 = .ok (.ldc2_w 40, 3) := by decide +kernel
theorem dX8_init_81 : decode cX8_init 81 = .ok (.lmul, 1) := by decide +kernel
theorem dX8_init_82 : decode cX8_init 82 = .ok (.ldc 28, 2) := by decide +kernel
theorem dX8_init_84 : decode cX8_init 84 = .ok (.iload 4, 2) := by decide +kernel
theorem dX8_init_86 : decode cX8_init 86 = .ok (.invokevirtual 36, 3) := by decide +kernel
theorem dX8_init_89 : decode cX8_init 89 = .ok (.bipush 97, 2) := by decide +kernel
theorem dX8_init_91 : decode cX8_init 91 = .ok (.isub, 1) := by decide +kernel
theorem dX8_init_92 : decode cX8_init 92 = .ok (.iconst 1, 1) := by decide +kernel
theorem dX8_init_93 : decode cX8_init 93 = .ok (.iadd, 1) := by decide +kernel
theorem dX8_init_94 : decode cX8_init 94 = .ok (.i2l, 1) := by decide +kernel
theorem dX8_init_95 : decode cX8_init 95 = .ok (.ladd, 1) := by decide +kernel
theorem dX8_init_96 : decode cX8_init 96 = .ok (.lstore_n 2, 1) := by decide +kernel
theorem dX8_init_97 : decode cX8_init 97 = .ok (.goto 24, 3) := by decide +kernel
theorem dX8_init_100 : decode cX8_init 100 = .ok (.iload_n 1, 1) := by decide +kernel
theorem dX8_init_101 : decode cX8_init 101 = .ok (.aload_n 0, 1) := by decide +kernel
theorem dX8_init_102 : decode cX8_init 102 = .ok (.getfield 25, 3) := by decide +kernel
theorem dX8_init_105 : decode cX8_init 105 = .ok (.arraylength, 1) := by decide +kernel
theorem dX8_init_106 : decode cX8_init 106 = .ok (.if_icmp .ge 15, 3) := by decide +kernel
theorem dX8_init_109 : decode cX8_init 109 = .ok (.aload_n 0, 1) := by decide +kernel
theorem dX8_init_110 : decode cX8_init 110 = .ok (.getfield 25, 3) := by decide +kernel
theorem dX8_init_113 : decode cX8_init 113 = .ok (.iload_n 1, 1) := by decide +kernel
theorem dX8_init_114 : decode cX8_init 114 = .ok (.lload_n 2, 1) := by decide +kernel
theorem dX8_init_115 : decode cX8_init 115 = .ok (.lastore, 1) := by decide +kernel
theorem dX8_init_116 : decode cX8_init 116 = .ok (.iinc 1 1, 3) := by decide +kernel
theorem dX8_init_119 : decode cX8_init 119 = .ok (.lconst 0, 1) := by decide +kernel
theorem dX8_init_120 : decode cX8_init 120 = .ok (.lstore_n 2, 1) := by decide +kernel
theorem dX8_init_121 : decode cX8_init 121 = .ok (.iinc 4 1, 3) := by decide +kernel
theorem dX8_init_124 : decode cX8_init 124 = .ok (.goto (-69), 3) := by decide +kernel
theorem dX8_init_127 : decode cX8_init 127 = .ok (.return_, 1) := by decide +kernel
theorem dX8_nameAt_0 : decode cX8_nameAt 0 = .ok (.iload_n 1, 1) := by decide +kernel
theorem dX8_nameAt_1 : decode cX8_nameAt 1 = .ok (.ifCond .lt 21, 3) := by decide +kernel
theorem dX8_nameAt_4 : decode cX8_nameAt 4 = .ok (.iload_n 1, 1) := by decide +kernel
theorem dX8_nameAt_5 : decode cX8_nameAt 5 = .ok (.aload_n 0, 1) := by decide +kernel
theorem dX8_nameAt_6 : decode cX8_nameAt 6 = .ok (.getfield 21, 3) := by decide +kernel
theorem dX8_nameAt_9 : decode cX8_nameAt 9 = .ok (.arraylength, 1) := by decide +kernel
theorem dX8_nameAt_10 : decode cX8_nameAt 10 = .ok (.if_icmp .ge 12, 3) := by decide +kernel
theorem dX8_nameAt_13 : decode cX8_nameAt 13 = .ok (.aload_n 0, 1) := by decide +kernel
theorem dX8_nameAt_14 : decode cX8_nameAt 14 = .ok (.getfield 21, 3) := by decide +kernel
theorem dX8_nameAt_17 : decode cX8_nameAt 17 = .ok (.iload_n 1, 1) := by decide +kernel
theorem dX8_nameAt_18 : decode cX8_nameAt 18 = .ok (.laload, 1) := by decide +kernel
theorem dX8_nameAt_19 : decode cX8_nameAt 19 = .ok (.goto 4, 3) := by decide +kernel
theorem dX8_nameAt_22 : decode cX8_nameAt 22 = .ok (.lconst 0, 1) := by decide +kernel
theorem dX8_nameAt_23 : decode cX8_nameAt 23 = .ok (.lreturn, 1) := by decide +kernel
theorem dX8_split_0 : decode cX8_split 0 = .ok (.aload_n 0, 1) := by decide +kernel
theorem dX8_split_1 : decode cX8_split 1 = .ok (.iconst 0, 1) := by decide +kernel
theorem dX8_split_2 : decode cX8_split 2 = .ok (.putfield 42, 3) := by decide +kernel
theorem dX8_split_5 : decode cX8_split 5 = .ok (.iconst 0, 1) := by decide +kernel
theorem dX8_split_6 : decode cX8_split 6 = .ok (.istore_n 3, 1) := by decide +kernel
theorem dX8_split_7 : decode cX8_split 7 = .ok (.iconst 2, 1) := by decide +kernel
theorem dX8_split_8 : decode cX8_split 8 = .ok (.istore 4, 2) := by decide +kernel
theorem dX8_split_10 : decode cX8_split 10 = .ok (.iconst 0, 1) := by decide +kernel
theorem dX8_split_11 : decode cX8_split 11 = .ok (.istore 5, 2) := by decide +kernel
theorem dX8_split_13 : decode cX8_split 13 = .ok (.iload 5, 2) := by decide +kernel
theorem dX8_split_15 : decode cX8_split 15 = .ok (.sipush 401, 3) := by decide +kernel
theorem dX8_split_18 : decode cX8_split 18 = .ok (.if_icmp .gt 78, 3) := by decide +kernel
theorem dX8_split_21 : decode cX8_split 21 = .ok (.iload 4, 2) := by decide +kernel
theorem dX8_split_23 : decode cX8_split 23 = .ok (.iconst 1, 1) := by decide +kernel
theorem dX8_split_24 : decode cX8_split 24 = .ok (.if_icmp .le 72, 3) := by decide +kernel
theorem dX8_split_27 : decode cX8_split 27 = .ok (.aload_n 1, 1) := by decide +kernel
theorem dX8_split_28 : decode cX8_split 28 = .ok (.iload_n 3, 1) := by decide +kernel
theorem dX8_split_29 : decode cX8_split 29 = .ok (.iload_n 2, 1) := by decide +kernel
theorem dX8_split_30 : decode cX8_split 30 = .ok (.invokestatic 46, 3) := by decide +kernel
theorem dX8_split_33 : decode cX8_split 33 = .ok (.istore_n 3, 1) := by decide +kernel
theorem dX8_split_34 : decode cX8_split 34 = .ok (.aload_n 1, 1) := by decide +kernel
theorem dX8_split_35 : decode cX8_split 35 = .ok (.iload_n 3, 1) := by decide +kernel
theorem dX8_split_36 : decode cX8_split 36 = .ok (.iload_n 2, 1) := by decide +kernel
theorem dX8_split_37 : decode cX8_split 37 = .ok (.invokestatic 50, 3) := by decide +kernel
theorem dX8_split_40 : decode cX8_split 40 = .ok (.istore 6, 2) := by decide +kernel
theorem dX8_split_42 : decode cX8_split 42 = .ok (.aload_n 0, 1) := by decide +kernel
theorem dX8_split_43 : decode cX8_split 43 = .ok (.aload_n 1, 1) := by decide +kernel
theorem dX8_split_44 : decode cX8_split 44 = .ok (.iload_n 3, 1) := by decide +kernel
theorem dX8_split_45 : decode cX8_split 45 = .ok (.iload 6, 2) := by decide +kernel
theorem dX8_split_47 : decode cX8_split 47 = .ok (.invokevirtual 53, 3) := by decide +kernel
theorem dX8_split_50 : decode cX8_split 50 = .ok (.istore 4, 2) := by decide +kernel
theorem dX8_split_52 : decode cX8_split 52 = .ok (.aload_n 0, 1) := by decide +kernel
theorem dX8_split_53 : decode cX8_split 53 = .ok (.getfield 9, 3) := by decide +kernel
theorem dX8_split_56 : decode cX8_split 56 = .ok (.aload_n 0, 1) := by decide +kernel
theorem dX8_split_57 : decode cX8_split 57 = .ok (.getfield 42, 3) := by decide +kernel
theorem dX8_split_60 : decode cX8_split 60 = .ok (.iload 4, 2) := by decide +kernel
theorem dX8_split_62 : decode cX8_split 62 = .ok (.invokestatic 56, 3) := by decide +kernel
theorem dX8_split_65 : decode cX8_split 65 = .ok (.aload_n 0, 1) := by decide +kernel
theorem dX8_split_66 : decode cX8_split 66 = .ok (.getfield 15, 3) := by decide +kernel
theorem dX8_split_69 : decode cX8_split 69 = .ok (.aload_n 0, 1) := by decide +kernel
theorem dX8_split_70 : decode cX8_split 70 = .ok (.getfield 42, 3) := by decide +kernel
theorem dX8_split_73 : decode cX8_split 73 = .ok (.iload_n 3, 1) := by decide +kernel
theorem dX8_split_74 : decode cX8_split 74 = .ok (.invokestatic 56, 3) := by decide +kernel
theorem dX8_split_77 : decode cX8_split 77 = .ok (.aload_n 0, 1) := by decide +kernel
theorem dX8_split_78 : decode cX8_split 78 = .ok (.dup, 1) := by decide +kernel
theorem dX8_split_79 : decode cX8_split 79 = .ok (.getfield 42, 3) := by decide +kernel
theorem dX8_split_82 : decode cX8_split 82 = .ok (.iconst 1, 1) := by decide +kernel
theorem dX8_split_83 : decode cX8_split 83 = .ok (.iadd, 1) := by decide +kernel
theorem dX8_split_84 : decode cX8_split 84 = .ok (.putfield 42, 3) := by decide +kernel
theorem dX8_split_87 : decode cX8_split 87 = .ok (.iload 6, 2) := by decide +kernel
theorem dX8_split_89 : decode cX8_split 89 = .ok (.istore_n 3, 1) := by decide +kernel
theorem dX8_split_90 : decode cX8_split 90 = .ok (.iinc 5 1, 3) := by decide +kernel
theorem dX8_split_93 : decode cX8_split 93 = .ok (.goto (-80), 3) := by decide +kernel
theorem dX8_split_96 : decode cX8_split 96 = .ok (.return_, 1) := by decide +kernel
theorem dX8_afterBlanks_0 : decode cX8_afterBlanks 0 = .ok (.iload_n 1, 1) := by decide +kernel
theorem dX8_afterBlanks_1 : decode cX8_afterBlanks 1 = .ok (.istore_n 3, 1) := by decide +kernel
theorem dX8_afterBlanks_2 : decode cX8_afterBlanks 2 = .ok (.iload_n 3, 1) := by decide +kernel
theorem dX8_afterBlanks_3 : decode cX8_afterBlanks 3 = .ok (.iload_n 2, 1) := by decide +kernel
theorem dX8_afterBlanks_4 : decode cX8_afterBlanks 4 = .ok (.if_icmp .ge 20, 3) := by decide +kernel
theorem dX8_afterBlanks_7 : decode cX8_afterBlanks 7 = .ok (.aload_n 0, 1) := by decide +kernel
theorem dX8_afterBlanks_8 : decode cX8_afterBlanks 8 = .ok (.iload_n 3, 1) := by decide +kernel
theorem dX8_afterBlanks_9 : decode cX8_afterBlanks 9 = .ok (.invokestatic 60, 3) := by decide +kernel
theorem dX8_afterBlanks_12 : decode cX8_afterBlanks 12 = .ok (.invokestatic 64, 3) := by decide +kernel
theorem dX8_afterBlanks_15 : decode cX8_afterBlanks 15 = .ok (.ifCond .eq 9, 3) := by decide +kernel
theorem dX8_afterBlanks_18 : decode cX8_afterBlanks 18 = .ok (.iinc 3 1, 3) := by decide +kernel
theorem dX8_afterBlanks_21 : decode cX8_afterBlanks 21 = .ok (.goto (-19), 3) := by decide +kernel
theorem dX8_afterBlanks_24 : decode cX8_afterBlanks 24 = .ok (.iload_n 3, 1) := by decide +kernel
theorem dX8_afterBlanks_25 : decode cX8_afterBlanks 25 = .ok (.ireturn, 1) := by decide +kernel
theorem dX8_tokenEnd_0 : decode cX8_tokenEnd 0 = .ok (.iload_n 1, 1) := by decide +kernel
theorem dX8_tokenEnd_1 : decode cX8_tokenEnd 1 = .ok (.istore_n 3, 1) := by decide +kernel
theorem dX8_tokenEnd_2 : decode cX8_tokenEnd 2 = .ok (.iload_n 1, 1) := by decide +kernel
theorem dX8_tokenEnd_3 : decode cX8_tokenEnd 3 = .ok (.iload_n 2, 1) := by decide +kernel
theorem dX8_tokenEnd_4 : decode cX8_tokenEnd 4 = .ok (.if_icmp .ge 38, 3) := by decide +kernel
theorem dX8_tokenEnd_7 : decode cX8_tokenEnd 7 = .ok (.aload_n 0, 1) := by decide +kernel
theorem dX8_tokenEnd_8 : decode cX8_tokenEnd 8 = .ok (.iload_n 1, 1) := by decide +kernel
theorem dX8_tokenEnd_9 : decode cX8_tokenEnd 9 = .ok (.invokestatic 60, 3) := by decide +kernel
theorem dX8_tokenEnd_12 : decode cX8_tokenEnd 12 = .ok (.invokestatic 68, 3) := by decide +kernel
theorem dX8_tokenEnd_15 : decode cX8_tokenEnd 15 = .ok (.ifCond .eq 27, 3) := by decide +kernel
theorem dX8_tokenEnd_18 : decode cX8_tokenEnd 18 = .ok (.iload_n 3, 1) := by decide +kernel
theorem dX8_tokenEnd_19 : decode cX8_tokenEnd 19 = .ok (.iload_n 2, 1) := by decide +kernel
theorem dX8_tokenEnd_20 : decode cX8_tokenEnd 20 = .ok (.if_icmp .ge 20, 3) := by decide +kernel
theorem dX8_tokenEnd_23 : decode cX8_tokenEnd 23 = .ok (.aload_n 0, 1) := by decide +kernel
theorem dX8_tokenEnd_24 : decode cX8_tokenEnd 24 = .ok (.iload_n 3, 1) := by decide +kernel
theorem dX8_tokenEnd_25 : decode cX8_tokenEnd 25 = .ok (.invokestatic 60, 3) := by decide +kernel
theorem dX8_tokenEnd_28 : decode cX8_tokenEnd 28 = .ok (.invokestatic 68, 3) := by decide +kernel
theorem dX8_tokenEnd_31 : decode cX8_tokenEnd 31 = .ok (.ifCond .eq 9, 3) := by decide +kernel
theorem dX8_tokenEnd_34 : decode cX8_tokenEnd 34 = .ok (.iinc 3 1, 3) := by decide +kernel
theorem dX8_tokenEnd_37 : decode cX8_tokenEnd 37 = .ok (.goto (-19), 3) := by decide +kernel
theorem dX8_tokenEnd_40 : decode cX8_tokenEnd 40 = .ok (.iload_n 3, 1) := by decide +kernel
theorem dX8_tokenEnd_41 : decode cX8_tokenEnd 41 = .ok (.ireturn, 1) := by decide +kernel
theorem dX8_tokenEnd_42 : decode cX8_tokenEnd 42 = .ok (.iload_n 1, 1) := by decide +kernel
theorem dX8_tokenEnd_43 : decode cX8_tokenEnd 43 = .ok (.iload_n 2, 1) := by decide +kernel
theorem dX8_tokenEnd_44 : decode cX8_tokenEnd 44 = .ok (.if_icmp .ge 38, 3) := by decide +kernel
theorem dX8_tokenEnd_47 : decode cX8_tokenEnd 47 = .ok (.aload_n 0, 1) := by decide +kernel
theorem dX8_tokenEnd_48 : decode cX8_tokenEnd 48 = .ok (.iload_n 1, 1) := by decide +kernel
theorem dX8_tokenEnd_49 : decode cX8_tokenEnd 49 = .ok (.invokestatic 60, 3) := by decide +kernel
theorem dX8_tokenEnd_52 : decode cX8_tokenEnd 52 = .ok (.invokestatic 71, 3) := by decide +kernel
theorem dX8_tokenEnd_55 : decode cX8_tokenEnd 55 = .ok (.ifCond .eq 27, 3) := by decide +kernel
theorem dX8_tokenEnd_58 : decode cX8_tokenEnd 58 = .ok (.iload_n 3, 1) := by decide +kernel
theorem dX8_tokenEnd_59 : decode cX8_tokenEnd 59 = .ok (.iload_n 2, 1) := by decide +kernel
theorem dX8_tokenEnd_60 : decode cX8_tokenEnd 60 = .ok (.if_icmp .ge 20, 3) := by decide +kernel
theorem dX8_tokenEnd_63 : decode cX8_tokenEnd 63 = .ok (.aload_n 0, 1) := by decide +kernel
theorem dX8_tokenEnd_64 : decode cX8_tokenEnd 64 = .ok (.iload_n 3, 1) := by decide +kernel
theorem dX8_tokenEnd_65 : decode cX8_tokenEnd 65 = .ok (.invokestatic 60, 3) := by decide +kernel
theorem dX8_tokenEnd_68 : decode cX8_tokenEnd 68 = .ok (.invokestatic 71, 3) := by decide +kernel
theorem dX8_tokenEnd_71 : decode cX8_tokenEnd 71 = .ok (.ifCond .eq 9, 3) := by decide +kernel
theorem dX8_tokenEnd_74 : decode cX8_tokenEnd 74 = .ok (.iinc 3 1, 3) := by decide +kernel
theorem dX8_tokenEnd_77 : decode cX8_tokenEnd 77 = .ok (.goto (-19), 3) := by decide +kernel
theorem dX8_tokenEnd_80 : decode cX8_tokenEnd 80 = .ok (.iload_n 3, 1) := by decide +kernel
theorem dX8_tokenEnd_81 : decode cX8_tokenEnd 81 = .ok (.ireturn, 1) := by decide +kernel
theorem dX8_tokenEnd_82 : decode cX8_tokenEnd 82 = .ok (.iload_n 1, 1) := by decide +kernel
theorem dX8_tokenEnd_83 : decode cX8_tokenEnd 83 = .ok (.iload_n 2, 1) := by decide +kernel
theorem dX8_tokenEnd_84 : decode cX8_tokenEnd 84 = .ok (.if_icmp .ge 9, 3) := by decide +kernel
theorem dX8_tokenEnd_87 : decode cX8_tokenEnd 87 = .ok (.iload_n 1, 1) := by decide +kernel
theorem dX8_tokenEnd_88 : decode cX8_tokenEnd 88 = .ok (.iconst 1, 1) := by decide +kernel
theorem dX8_tokenEnd_89 : decode cX8_tokenEnd 89 = .ok (.iadd, 1) := by decide +kernel
theorem dX8_tokenEnd_90 : decode cX8_tokenEnd 90 = .ok (.goto 4, 3) := by decide +kernel
theorem dX8_tokenEnd_93 : decode cX8_tokenEnd 93 = .ok (.iload_n 1, 1) := by decide +kernel
theorem dX8_tokenEnd_94 : decode cX8_tokenEnd 94 = .ok (.ireturn, 1) := by decide +kernel
theorem dX8_kindOf_0 : decode cX8_kindOf 0 = .ok (.iload_n 3, 1) := by decide +kernel
theorem dX8_kindOf_1 : decode cX8_kindOf 1 = .ok (.iload_n 2, 1) := by decide +kernel
theorem dX8_kindOf_2 : decode cX8_kindOf 2 = .ok (.isub, 1) := by decide +kernel
theorem dX8_kindOf_3 : decode cX8_kindOf 3 = .ok (.istore 4, 2) := by decide +kernel
theorem dX8_kindOf_5 : decode cX8_kindOf 5 = .ok (.iload 4, 2) := by decide +kernel
theorem dX8_kindOf_7 : decode cX8_kindOf 7 = .ok (.ifCond .gt 5, 3) := by decide +kernel
theorem dX8_kindOf_10 : decode cX8_kindOf 10 = .ok (.iconst 0, 1) := by decide +kernel
theorem dX8_kindOf_11 : decode cX8_kindOf 11 = .ok (.ireturn, 1) := by decide +kernel
theorem dX8_kindOf_12 : decode cX8_kindOf 12 = .ok (.aload_n 1, 1) := by decide +kernel
theorem dX8_kindOf_13 : decode cX8_kindOf 13 = .ok (.iload_n 2, 1) := by decide +kernel
theorem dX8_kindOf_14 : decode cX8_kindOf 14 = .ok (.invokestatic 60, 3) := by decide +kernel
theorem dX8_kindOf_17 : decode cX8_kindOf 17 = .ok (.istore 5, 2) := by decide +kernel
theorem dX8_kindOf_19 : decode cX8_kindOf 19 = .ok (.iload 5, 2) := by decide +kernel
theorem dX8_kindOf_21 : decode cX8_kindOf 21 = .ok (.invokestatic 68, 3) := by decide +kernel
theorem dX8_kindOf_24 : decode cX8_kindOf 24 = .ok (.ifCond .eq 22, 3) := by decide +kernel
theorem dX8_kindOf_27 : decode cX8_kindOf 27 = .ok (.iload 4, 2) := by decide +kernel
theorem dX8_kindOf_29 : decode cX8_kindOf 29 = .ok (.bipush 8, 2) := by decide +kernel
theorem dX8_kindOf_31 : decode cX8_kindOf 31 = .ok (.if_icmp .gt 13, 3) := by decide +kernel
theorem dX8_kindOf_34 : decode cX8_kindOf 34 = .ok (.aload_n 0, 1) := by decide +kernel
theorem dX8_kindOf_35 : decode cX8_kindOf 35 = .ok (.aload_n 1, 1) := by decide +kernel
theorem dX8_kindOf_36 : decode cX8_kindOf 36 = .ok (.iload_n 2, 1) := by decide +kernel
theorem dX8_kindOf_37 : decode cX8_kindOf 37 = .ok (.iload_n 3, 1) := by decide +kernel
theorem dX8_kindOf_38 : decode cX8_kindOf 38 = .ok (.invokevirtual 74, 3) := by decide +kernel
theorem dX8_kindOf_41 : decode cX8_kindOf 41 = .ok (.goto 4, 3) := by decide +kernel
theorem dX8_kindOf_44 : decode cX8_kindOf 44 = .ok (.iconst 1, 1) := by decide +kernel
theorem dX8_kindOf_45 : decode cX8_kindOf 45 = .ok (.ireturn, 1) := by decide +kernel
theorem dX8_kindOf_46 : decode cX8_kindOf 46 = .ok (.iload 5, 2) := by decide +kernel
theorem dX8_kindOf_48 : decode cX8_kindOf 48 = .ok (.invokestatic 71, 3) := by decide +kernel
theorem dX8_kindOf_51 : decode cX8_kindOf 51 = .ok (.ifCond .eq 21, 3) := by decide +kernel
theorem dX8_kindOf_54 : decode cX8_kindOf 54 = .ok (.iload 4, 2) := by decide +kernel
theorem dX8_kindOf_56 : decode cX8_kindOf 56 = .ok (.iconst 4, 1) := by decide +kernel
theorem dX8_kindOf_57 : decode cX8_kindOf 57 = .ok (.if_icmp .gt 13, 3) := by decide +kernel
theorem dX8_kindOf_60 : decode cX8_kindOf 60 = .ok (.aload_n 0, 1) := by decide +kernel
theorem dX8_kindOf_61 : decode cX8_kindOf 61 = .ok (.aload_n 1, 1) := by decide +kernel
theorem dX8_kindOf_62 : decode cX8_kindOf 62 = .ok (.iload_n 2, 1) := by decide +kernel
theorem dX8_kindOf_63 : decode cX8_kindOf 63 = .ok (.iload_n 3, 1) := by decide +kernel
theorem dX8_kindOf_64 : decode cX8_kindOf 64 = .ok (.invokevirtual 77, 3) := by decide +kernel
theorem dX8_kindOf_67 : decode cX8_kindOf 67 = .ok (.goto 4, 3) := by decide +kernel
theorem dX8_kindOf_70 : decode cX8_kindOf 70 = .ok (.iconst 1, 1) := by decide +kernel
theorem dX8_kindOf_71 : decode cX8_kindOf 71 = .ok (.ireturn, 1) := by decide +kernel
theorem dX8_kindOf_72 : decode cX8_kindOf 72 = .ok (.iconst 0, 1) := by decide +kernel
theorem dX8_kindOf_73 : decode cX8_kindOf 73 = .ok (.istore 6, 2) := by decide +kernel
theorem dX8_kindOf_75 : decode cX8_kindOf 75 = .ok (.iload 6, 2) := by decide +kernel
theorem dX8_kindOf_77 : decode cX8_kindOf 77 = .ok (.ldc 80, 2) := by decide +kernel
theorem dX8_kindOf_79 : decode cX8_kindOf 79 = .ok (.invokevirtual 30, 3) := by decide +kernel
theorem dX8_kindOf_82 : decode cX8_kindOf 82 = .ok (.if_icmp .ge 24, 3) := by decide +kernel
theorem dX8_kindOf_85 : decode cX8_kindOf 85 = .ok (.ldc 80, 2) := by decide +kernel
theorem dX8_kindOf_87 : decode cX8_kindOf 87 = .ok (.iload 6, 2) := by decide +kernel
theorem dX8_kindOf_89 : decode cX8_kindOf 89 = .ok (.invokevirtual 36, 3) := by decide +kernel
theorem dX8_kindOf_92 : decode cX8_kindOf 92 = .ok (.iload 5, 2) := by decide +kernel
theorem dX8_kindOf_94 : decode cX8_kindOf 94 = .ok (.if_icmp .ne 6, 3) := by decide +kernel
theorem dX8_kindOf_97 : decode cX8_kindOf 97 = .ok (.iload 5, 2) := by decide +kernel
theorem dX8_kindOf_99 : decode cX8_kindOf 99 = .ok (.ireturn, 1) := by decide +kernel
theorem dX8_kindOf_100 : decode cX8_kindOf 100 = .ok (.iinc 6 1, 3) := by decide +kernel
theorem dX8_kindOf_103 : decode cX8_kindOf 103 = .ok (.goto (-28), 3) := by decide +kernel
theorem dX8_kindOf_106 : decode cX8_kindOf 106 = .ok (.iconst 1, 1) := by decide +kernel
theorem dX8_kindOf_107 : decode cX8_kindOf 107 = .ok (.ireturn, 1) := by decide +kernel
theorem dX8_wordKind_0 : decode cX8_wordKind 0 = .ok (.lconst 0, 1) := by decide +kernel
theorem dX8_wordKind_1 : decode cX8_wordKind 1 = .ok (.lstore 4, 2) := by decide +kernel
theorem dX8_wordKind_3 : decode cX8_wordKind 3 = .ok (.iload_n 2, 1) := by decide +kernel
theorem dX8_wordKind_4 : decode cX8_wordKind 4 = .ok (.istore 6, 2) := by decide +kernel
theorem dX8_wordKind_6 : decode cX8_wordKind 6 = .ok (.iload 6, 2) := by decide +kernel
theorem dX8_wordKind_8 : decode cX8_wordKind 8 = .ok (.iload_n 3, 1) := by decide +kernel
theorem dX8_wordKind_9 : decode cX8_wordKind 9 = .ok (.if_icmp .ge 30, 3) := by decide +kernel
theorem dX8_wordKind_12 : decode cX8_wordKind 12 = .ok (.lload 4, 2) := by decide +kernel
theorem dX8_wordKind_14 : decode cX8_wordKind 14 = .ok (.ldc2_w 40, 3) := by decide +kernel
theorem dX8_wordKind_17 : decode cX8_wordKind 17 = .ok (.lmul, 1) := by decide +kernel
theorem dX8_wordKind_18 : decode cX8_wordKind 18 = .ok (.aload_n 1, 1) := by decide +kernel
theorem dX8_wordKind_19 : decode cX8_wordKind 19 = .ok (.iload 6, 2) := by decide +kernel
theorem dX8_wordKind_21 : decode cX8_wordKind 21 = .ok (.invokestatic 60, 3) := by decide +kernel
theorem dX8_wordKind_24 : decode cX8_wordKind 24 = .ok (.bipush 97, 2) := by decide +kernel
theorem dX8_wordKind_26 : decode cX8_wordKind 26 = .ok (.isub, 1) := by decide +kernel
theorem dX8_wordKind_27 : decode cX8_wordKind 27 = .ok (.iconst 1, 1) := by decide +kernel
theorem dX8_wordKind_28 : decode cX8_wordKind 28 = .ok (.iadd, 1) := by decide +kernel
theorem dX8_wordKind_29 : decode cX8_wordKind 29 = .ok (.i2l, 1) := by decide +kernel
theorem dX8_wordKind_30 : decode cX8_wordKind 30 = .ok (.ladd, 1) := by decide +kernel
theorem dX8_wordKind_31 : decode cX8_wordKind 31 = .ok (.lstore 4, 2) := by decide +kernel
theorem dX8_wordKind_33 : decode cX8_wordKind 33 = .ok (.iinc 6 1, 3) := by decide +kernel
theorem dX8_wordKind_36 : decode cX8_wordKind 36 = .ok (.goto (-30), 3) := by decide +kernel
theorem dX8_wordKind_39 : decode cX8_wordKind 39 = .ok (.aload_n 0, 1) := by decide +kernel
theorem dX8_wordKind_40 : decode cX8_wordKind 40 = .ok (.getfield 42, 3) := by decide +kernel
theorem dX8_wordKind_43 : decode cX8_wordKind 43 = .ok (.ifCond .lt 26, 3) := by decide +kernel
theorem dX8_wordKind_46 : decode cX8_wordKind 46 = .ok (.aload_n 0, 1) := by decide +kernel
theorem dX8_wordKind_47 : decode cX8_wordKind 47 = .ok (.getfield 42, 3) := by decide +kernel
theorem dX8_wordKind_50 : decode cX8_wordKind 50 = .ok (.aload_n 0, 1) := by decide +kernel
theorem dX8_wordKind_51 : decode cX8_wordKind 51 = .ok (.getfield 21, 3) := by decide +kernel
theorem dX8_wordKind_54 : decode cX8_wordKind 54 = .ok (.arraylength, 1) := by decide +kernel
theorem dX8_wordKind_55 : decode cX8_wordKind 55 = .ok (.if_icmp .ge 14, 3) := by decide +kernel
theorem dX8_wordKind_58 : decode cX8_wordKind 58 = .ok (.aload_n 0, 1) := by decide +kernel
theorem dX8_wordKind_59 : decode cX8_wordKind 59 = .ok (.getfield 21, 3) := by decide +kernel
theorem dX8_wordKind_62 : decode cX8_wordKind 62 = .ok (.aload_n 0, 1) := by decide +kernel
theorem dX8_wordKind_63 : decode cX8_wordKind 63 = .ok (.getfield 42, 3) := by decide +kernel
theorem dX8_wordKind_66 : decode cX8_wordKind 66 = .ok (.lload 4, 2) := by decide +kernel
theorem dX8_wordKind_68 : decode cX8_wordKind 68 = .ok (.lastore, 1) := by decide +kernel
theorem dX8_wordKind_69 : decode cX8_wordKind 69 = .ok (.iconst 0, 1) := by decide +kernel
theorem dX8_wordKind_70 : decode cX8_wordKind 70 = .ok (.istore 6, 2) := by decide +kernel
theorem dX8_wordKind_72 : decode cX8_wordKind 72 = .ok (.iload 6, 2) := by decide +kernel
theorem dX8_wordKind_74 : decode cX8_wordKind 74 = .ok (.aload_n 0, 1) := by decide +kernel
theorem dX8_wordKind_75 : decode cX8_wordKind 75 = .ok (.getfield 25, 3) := by decide +kernel
theorem dX8_wordKind_78 : decode cX8_wordKind 78 = .ok (.arraylength, 1) := by decide +kernel
theorem dX8_wordKind_79 : decode cX8_wordKind 79 = .ok (.if_icmp .ge 29, 3) := by decide +kernel
theorem dX8_wordKind_82 : decode cX8_wordKind 82 = .ok (.aload_n 0, 1) := by decide +kernel
theorem dX8_wordKind_83 : decode cX8_wordKind 83 = .ok (.getfield 25, 3) := by decide +kernel
theorem dX8_wordKind_86 : decode cX8_wordKind 86 = .ok (.iload 6, 2) := by decide +kernel
theorem dX8_wordKind_88 : decode cX8_wordKind 88 = .ok (.laload, 1) := by decide +kernel
theorem dX8_wordKind_89 : decode cX8_wordKind 89 = .ok (.lload 4, 2) := by decide +kernel
theorem dX8_wordKind_91 : decode cX8_wordKind 91 = .ok (.lcmp, 1) := by decide +kernel
theorem dX8_wordKind_92 : decode cX8_wordKind 92 = .ok (.ifCond .ne 10, 3) := by decide +kernel
theorem dX8_wordKind_95 : decode cX8_wordKind 95 = .ok (.sipush 128, 3) := by decide +kernel
theorem dX8_wordKind_98 : decode cX8_wordKind 98 = .ok (.iload 6, 2) := by decide +kernel
theorem dX8_wordKind_100 : decode cX8_wordKind 100 = .ok (.iadd, 1) := by decide +kernel
theorem dX8_wordKind_101 : decode cX8_wordKind 101 = .ok (.ireturn, 1) := by decide +kernel
theorem dX8_wordKind_102 : decode cX8_wordKind 102 = .ok (.iinc 6 1, 3) := by decide +kernel
theorem dX8_wordKind_105 : decode cX8_wordKind 105 = .ok (.goto (-33), 3) := by decide +kernel
theorem dX8_wordKind_108 : decode cX8_wordKind 108 = .ok (.iconst 2, 1) := by decide +kernel
theorem dX8_wordKind_109 : decode cX8_wordKind 109 = .ok (.ireturn, 1) := by decide +kernel
theorem dX8_intKind_0 : decode cX8_intKind 0 = .ok (.iconst 0, 1) := by decide +kernel
theorem dX8_intKind_1 : decode cX8_intKind 1 = .ok (.istore 4, 2) := by decide +kernel
theorem dX8_intKind_3 : decode cX8_intKind 3 = .ok (.iload_n 2, 1) := by decide +kernel
theorem dX8_intKind_4 : decode cX8_intKind 4 = .ok (.istore 5, 2) := by decide +kernel
theorem dX8_intKind_6 : decode cX8_intKind 6 = .ok (.iload 5, 2) := by decide +kernel
theorem dX8_intKind_8 : decode cX8_intKind 8 = .ok (.iload_n 3, 1) := by decide +kernel
theorem dX8_intKind_9 : decode cX8_intKind 9 = .ok (.if_icmp .ge 26, 3) := by decide +kernel
theorem dX8_intKind_12 : decode cX8_intKind 12 = .ok (.iload 4, 2) := by decide +kernel
theorem dX8_intKind_14 : decode cX8_intKind 14 = .ok (.bipush 10, 2) := by decide +kernel
theorem dX8_intKind_16 : decode cX8_intKind 16 = .ok (.imul, 1) := by decide +kernel
theorem dX8_intKind_17 : decode cX8_intKind 17 = .ok (.aload_n 1, 1) := by decide +kernel
theorem dX8_intKind_18 : decode cX8_intKind 18 = .ok (.iload 5, 2) := by decide +kernel
theorem dX8_intKind_20 : decode cX8_intKind 20 = .ok (.invokestatic 60, 3) := by decide +kernel
theorem dX8_intKind_23 : decode cX8_intKind 23 = .ok (.bipush 48, 2) := by decide +kernel
theorem dX8_intKind_25 : decode cX8_intKind 25 = .ok (.isub, 1) := by decide +kernel
theorem dX8_intKind_26 : decode cX8_intKind 26 = .ok (.iadd, 1) := by decide +kernel
theorem dX8_intKind_27 : decode cX8_intKind 27 = .ok (.istore 4, 2) := by decide +kernel
theorem dX8_intKind_29 : decode cX8_intKind 29 = .ok (.iinc 5 1, 3) := by decide +kernel
theorem dX8_intKind_32 : decode cX8_intKind 32 = .ok (.goto (-26), 3) := by decide +kernel
theorem dX8_intKind_35 : decode cX8_intKind 35 = .ok (.aload_n 0, 1) := by decide +kernel
theorem dX8_intKind_36 : decode cX8_intKind 36 = .ok (.getfield 18, 3) := by decide +kernel
theorem dX8_intKind_39 : decode cX8_intKind 39 = .ok (.aload_n 0, 1) := by decide +kernel
theorem dX8_intKind_40 : decode cX8_intKind 40 = .ok (.getfield 42, 3) := by decide +kernel
theorem dX8_intKind_43 : decode cX8_intKind 43 = .ok (.iload 4, 2) := by decide +kernel
theorem dX8_intKind_45 : decode cX8_intKind 45 = .ok (.invokestatic 56, 3) := by decide +kernel
theorem dX8_intKind_48 : decode cX8_intKind 48 = .ok (.iconst 3, 1) := by decide +kernel
theorem dX8_intKind_49 : decode cX8_intKind 49 = .ok (.ireturn, 1) := by decide +kernel
theorem dX8_isBlank_0 : decode cX8_isBlank 0 = .ok (.iload_n 0, 1) := by decide +kernel
theorem dX8_isBlank_1 : decode cX8_isBlank 1 = .ok (.bipush 9, 2) := by decide +kernel
theorem dX8_isBlank_3 : decode cX8_isBlank 3 = .ok (.if_icmp .eq 21, 3) := by decide +kernel
theorem dX8_isBlank_6 : decode cX8_isBlank 6 = .ok (.iload_n 0, 1) := by decide +kernel
theorem dX8_isBlank_7 : decode cX8_isBlank 7 = .ok (.bipush 10, 2) := by decide +kernel
theorem dX8_isBlank_9 : decode cX8_isBlank 9 = .ok (.if_icmp .eq 15, 3) := by decide +kernel
theorem dX8_isBlank_12 : decode cX8_isBlank 12 = .ok (.iload_n 0, 1) := by decide +kernel
theorem dX8_isBlank_13 : decode cX8_isBlank 13 = .ok (.bipush 13, 2) := by decide +kernel
theorem dX8_isBlank_15 : decode cX8_isBlank 15 = .ok (.if_icmp .eq 9, 3) := by decide +kernel
theorem dX8_isBlank_18 : decode cX8_isBlank 18 = .ok (.iload_n 0, 1) := by decide +kernel
theorem dX8_isBlank_19 : decode cX8_isBlank 19 = .ok (.bipush 32, 2) := by decide +kernel
theorem dX8_isBlank_21 : decode cX8_isBlank 21 = .ok (.if_icmp .ne 7, 3) := by decide +kernel
theorem dX8_isBlank_24 : decode cX8_isBlank 24 = .ok (.iconst 1, 1) := by decide +kernel
theorem dX8_isBlank_25 : decode cX8_isBlank 25 = .ok (.goto 4, 3) := by decide +kernel
theorem dX8_isBlank_28 : decode cX8_isBlank 28 = .ok (.iconst 0, 1) := by decide +kernel
theorem dX8_isBlank_29 : decode cX8_isBlank 29 = .ok (.ireturn, 1) := by decide +kernel
theorem dX8_isLetter_0 : decode cX8_isLetter 0 = .ok (.iload_n 0, 1) := by decide +kernel
theorem dX8_isLetter_1 : decode cX8_isLetter 1 = .ok (.bipush 97, 2) := by decide +kernel
theorem dX8_isLetter_3 : decode cX8_isLetter 3 = .ok (.if_icmp .lt 13, 3) := by decide +kernel
theorem dX8_isLetter_6 : decode cX8_isLetter 6 = .ok (.iload_n 0, 1) := by decide +kernel
theorem dX8_isLetter_7 : decode cX8_isLetter 7 = .ok (.bipush 122, 2) := by decide +kernel
theorem dX8_isLetter_9 : decode cX8_isLetter 9 = .ok (.if_icmp .gt 7, 3) := by decide +kernel
theorem dX8_isLetter_12 : decode cX8_isLetter 12 = .ok (.iconst 1, 1) := by decide +kernel
theorem dX8_isLetter_13 : decode cX8_isLetter 13 = .ok (.goto 4, 3) := by decide +kernel
theorem dX8_isLetter_16 : decode cX8_isLetter 16 = .ok (.iconst 0, 1) := by decide +kernel
theorem dX8_isLetter_17 : decode cX8_isLetter 17 = .ok (.ireturn, 1) := by decide +kernel
theorem dX8_isDigit_0 : decode cX8_isDigit 0 = .ok (.iload_n 0, 1) := by decide +kernel
theorem dX8_isDigit_1 : decode cX8_isDigit 1 = .ok (.bipush 48, 2) := by decide +kernel
theorem dX8_isDigit_3 : decode cX8_isDigit 3 = .ok (.if_icmp .lt 13, 3) := by decide +kernel
theorem dX8_isDigit_6 : decode cX8_isDigit 6 = .ok (.iload_n 0, 1) := by decide +kernel
theorem dX8_isDigit_7 : decode cX8_isDigit 7 = .ok (.bipush 57, 2) := by decide +kernel
theorem dX8_isDigit_9 : decode cX8_isDigit 9 = .ok (.if_icmp .gt 7, 3) := by decide +kernel
theorem dX8_isDigit_12 : decode cX8_isDigit 12 = .ok (.iconst 1, 1) := by decide +kernel
theorem dX8_isDigit_13 : decode cX8_isDigit 13 = .ok (.goto 4, 3) := by decide +kernel
theorem dX8_isDigit_16 : decode cX8_isDigit 16 = .ok (.iconst 0, 1) := by decide +kernel
theorem dX8_isDigit_17 : decode cX8_isDigit 17 = .ok (.ireturn, 1) := by decide +kernel
theorem dX9_init_0 : decode cX9_init 0 = .ok (.aload_n 0, 1) := by decide +kernel
theorem dX9_init_1 : decode cX9_init 1 = .ok (.invokespecial 3, 3) := by decide +kernel
theorem dX9_init_4 : decode cX9_init 4 = .ok (.aload_n 0, 1) := by decide +kernel
theorem dX9_init_5 : decode cX9_init 5 = .ok (.bipush 12, 2) := by decide +kernel
theorem dX9_init_7 : decode cX9_init 7 = .ok (.newarray .int, 2) := by decide +kernel
theorem dX9_init_9 : decode cX9_init 9 = .ok (.putfield 9, 3) := by decide +kernel
theorem dX9_init_12 : decode cX9_init 12 = .ok (.aload_n 0, 1) := by decide +kernel
theorem dX9_init_13 : decode cX9_init 13 = .ok (.bipush 12, 2) := by decide +kernel
theorem dX9_init_15 : decode cX9_init 15 = .ok (.newarray .int, 2) := by decide +kernel
theorem dX9_init_17 : decode cX9_init 17 = .ok (.putfield 15, 3) := by decide +kernel
theorem dX9_init_20 : decode cX9_init 20 = .ok (.aload_n 0, 1) := by decide +kernel
theorem dX9_init_21 : decode cX9_init 21 = .ok (.bipush 12, 2) := by decide +kernel
theorem dX9_init_23 : decode cX9_init 23 = .ok (.newarray .int, 2) := by decide +kernel
theorem dX9_init_25 : decode cX9_init 25 = .ok (.putfield 18, 3) := by decide +kernel
theorem dX9_init_28 : decode cX9_init 28 = .ok (.aload_n 0, 1) := by decide +kernel
theorem dX9_init_29 : decode cX9_init 29 = .ok (.bipush 7, 2) := by decide +kernel
theorem dX9_init_31 : decode cX9_init 31 = .ok (.newarray .int, 2) := by decide +kernel
theorem dX9_init_33 : decode cX9_init 33 = .ok (.putfield 21, 3) := by decide +kernel
theorem dX9_init_36 : decode cX9_init 36 = .ok (.return_, 1) := by decide +kernel
theorem dX9_add_0 : decode cX9_add 0 = .ok (.aload_n 0, 1) := by decide +kernel
theorem dX9_add_1 : decode cX9_add 1 = .ok (.getfield 24, 3) := by decide +kernel
theorem dX9_add_4 : decode cX9_add 4 = .ok (.bipush 12, 2) := by decide +kernel
theorem dX9_add_6 : decode cX9_add 6 = .ok (.if_icmp .lt 5, 3) := by decide +kernel
theorem dX9_add_9 : decode cX9_add 9 = .ok (.iconst (-1), 1) := by decide +kernel
theorem dX9_add_10 : decode cX9_add 10 = .ok (.ireturn, 1) := by decide +kernel
theorem dX9_add_11 : decode cX9_add 11 = .ok (.aload_n 0, 1) := by decide +kernel
theorem dX9_add_12 : decode cX9_add 12 = .ok (.getfield 9, 3) := by decide +kernel
theorem dX9_add_15 : decode cX9_add 15 = .ok (.aload_n 0, 1) := by decide +kernel
theorem dX9_add_16 : decode cX9_add 16 = .ok (.getfield 24, 3) := by decide +kernel
theorem dX9_add_19 : decode cX9_add 19 = .ok (.iload_n 1, 1) := by decide +kernel
theorem dX9_add_20 : decode cX9_add 20 = .ok (.invokestatic 28, 3) := by decide +kernel
theorem dX9_add_23 : decode cX9_add 23 = .ok (.aload_n 0, 1) := by decide +kernel
theorem dX9_add_24 : decode cX9_add 24 = .ok (.getfield 15, 3) := by decide +kernel
theorem dX9_add_27 : decode cX9_add 27 = .ok (.aload_n 0, 1) := by decide +kernel
theorem dX9_add_28 : decode cX9_add 28 = .ok (.getfield 24, 3) := by decide +kernel
theorem dX9_add_31 : decode cX9_add 31 = .ok (.iload_n 2, 1) := by decide +kernel
theorem dX9_add_32 : decode cX9_add 32 = .ok (.invokestatic 28, 3) := by decide +kernel
theorem dX9_add_35 : decode cX9_add 35 = .ok (.aload_n 0, 1) := by decide +kernel
theorem dX9_add_36 : decode cX9_add 36 = .ok (.getfield 18, 3) := by decide +kernel
theorem dX9_add_39 : decode cX9_add 39 = .ok (.aload_n 0, 1) := by decide +kernel
theorem dX9_add_40 : decode cX9_add 40 = .ok (.getfield 24, 3) := by decide +kernel
theorem dX9_add_43 : decode cX9_add 43 = .ok (.iload_n 3, 1) := by decide +kernel
theorem dX9_add_44 : decode cX9_add 44 = .ok (.ifCond .eq 7, 3) := by decide +kernel
theorem dX9_add_47 : decode cX9_add 47 = .ok (.iconst 1, 1) := by decide +kernel
theorem dX9_add_48 : decode cX9_add 48 = .ok (.goto 4, 3) := by decide +kernel
theorem dX9_add_51 : decode cX9_add 51 = .ok (.iconst 0, 1) := by decide +kernel
theorem dX9_add_52 : decode cX9_add 52 = .ok (.invokestatic 28, 3) := by decide +kernel
theorem dX9_add_55 : decode cX9_add 55 = .ok (.aload_n 0, 1) := by decide +kernel
theorem dX9_add_56 : decode cX9_add 56 = .ok (.dup, 1) := by decide +kernel
theorem dX9_add_57 : decode cX9_add 57 = .ok (.getfield 24, 3) := by decide +kernel
theorem dX9_add_60 : decode cX9_add 60 = .ok (.iconst 1, 1) := by decide +kernel
theorem dX9_add_61 : decode cX9_add 61 = .ok (.iadd, 1) := by decide +kernel
theorem dX9_add_62 : decode cX9_add 62 = .ok (.putfield 24, 3) := by decide +kernel
theorem dX9_add_65 : decode cX9_add 65 = .ok (.aload_n 0, 1) := by decide +kernel
theorem dX9_add_66 : decode cX9_add 66 = .ok (.getfield 24, 3) := by decide +kernel
theorem dX9_add_69 : decode cX9_add 69 = .ok (.iconst 1, 1) := by decide +kernel
theorem dX9_add_70 : decode cX9_add 70 = .ok (.isub, 1) := by decide +kernel
theorem dX9_add_71 : decode cX9_add 71 = .ok (.ireturn, 1) := by decide +kernel
theorem dX9_countRows_0 : decode cX9_countRows 0 = .ok (.iconst 1, 1) := by decide +kernel
theorem dX9_countRows_1 : decode cX9_countRows 1 = .ok (.istore 6, 2) := by decide +kernel
theorem dX9_countRows_3 : decode cX9_countRows 3 = .ok (.iconst 0, 1) := by decide +kernel
theorem dX9_countRows_4 : decode cX9_countRows 4 = .ok (.istore 7, 2) := by decide +kernel
theorem dX9_countRows_6 : decode cX9_countRows 6 = .ok (.iload 7, 2) := by decide +kernel
theorem dX9_countRows_8 : decode cX9_countRows 8 = .ok (.aload_n 1, 1) := by decide +kernel
theorem dX9_countRows_9 : decode cX9_countRows 9 = .ok (.getfield 32, 3) := by decide +kernel
theorem dX9_countRows_12 : decode cX9_countRows 12 = .ok (.if_icmp .ge 17, 3) := by decide +kernel
theorem dX9_countRows_15 : decode cX9_countRows 15 = .ok (.iload 6, 2) := by decide +kernel
theorem dX9_countRows_17 : decode cX9_countRows 17 = .ok (.iload_n 3, 1) := by decide +kernel
theorem dX9_countRows_18 : decode cX9_countRows 18 = .ok (.iconst 1, 1) := by decide +kernel
theorem dX9_countRows_19 : decode cX9_countRows 19 = .ok (.iadd, 1) := by decide +kernel
theorem dX9_countRows_20 : decode cX9_countRows 20 = .ok (.imul, 1) := by decide +kernel
theorem dX9_countRows_21 : decode cX9_countRows 21 = .ok (.istore 6, 2) := by decide +kernel
theorem dX9_countRows_23 : decode cX9_countRows 23 = .ok (.iinc 7 1, 3) := by decide +kernel
theorem dX9_countRows_26 : decode cX9_countRows 26 = .ok (.goto (-20), 3) := by decide +kernel
theorem dX9_countRows_29 : decode cX9_countRows 29 = .ok (.iload 6, 2) := by decide +kernel
theorem dX9_countRows_31 : decode cX9_countRows 31 = .ok (.sipush 1000, 3) := by decide +kernel
theorem dX9_countRows_34 : decode cX9_countRows 34 = .ok (.if_icmp .le 6, 3) := by decide +kernel
theorem dX9_countRows_37 : decode cX9_countRows 37 = .ok (.bipush (-2), 2) := by decide +kernel
theorem dX9_countRows_39 : decode cX9_countRows 39 = .ok (.ireturn, 1) := by decide +kernel
theorem dX9_countRows_40 : decode cX9_countRows 40 = .ok (.iload 5, 2) := by decide +kernel
theorem dX9_countRows_42 : decode cX9_countRows 42 = .ok (.ifCond .ne 6, 3) := by decide +kernel
theorem dX9_countRows_45 : decode cX9_countRows 45 = .ok (.iload 6, 2) := by decide +kernel
theorem dX9_countRows_47 : decode cX9_countRows 47 = .ok (.ireturn, 1) := by decide +kernel
theorem dX9_countRows_48 : decode cX9_countRows 48 = .ok (.iconst 0, 1) := by decide +kernel
theorem dX9_countRows_49 : decode cX9_countRows 49 = .ok (.istore 7, 2) := by decide +kernel
theorem dX9_countRows_51 : decode cX9_countRows 51 = .ok (.aload_n 0, 1) := by decide +kernel
theorem dX9_countRows_52 : decode cX9_countRows 52 = .ok (.getfield 21, 3) := by decide +kernel
theorem dX9_countRows_55 : decode cX9_countRows 55 = .ok (.iconst 0, 1) := by decide +kernel
theorem dX9_countRows_56 : decode cX9_countRows 56 = .ok (.invokestatic 36, 3) := by decide +kernel
theorem dX9_countRows_59 : decode cX9_countRows 59 = .ok (.iconst 0, 1) := by decide +kernel
theorem dX9_countRows_60 : decode cX9_countRows 60 = .ok (.istore 8, 2) := by decide +kernel
theorem dX9_countRows_62 : decode cX9_countRows 62 = .ok (.iload 8, 2) := by decide +kernel
theorem dX9_countRows_64 : decode cX9_countRows 64 = .ok (.iload 6, 2) := by decide +kernel
theorem dX9_countRows_66 : decode cX9_countRows 66 = .ok (.if_icmp .ge 54, 3) := by decide +kernel
theorem dX9_countRows_69 : decode cX9_countRows 69 = .ok (.iload 8, 2) := by decide +kernel
theorem dX9_countRows_71 : decode cX9_countRows 71 = .ok (.sipush 1000, 3) := by decide +kernel
theorem dX9_countRows_74 : decode cX9_countRows 74 = .ok (.if_icmp .ge 46, 3) := by decide +kernel
theorem dX9_countRows_77 : decode cX9_countRows 77 = .ok (.aload_n 0, 1) := by decide +kernel
theorem dX9_countRows_78 : decode cX9_countRows 78 = .ok (.aload_n 1, 1) := by decide +kernel
theorem dX9_countRows_79 : decode cX9_countRows 79 = .ok (.aload_n 2, 1) := by decide +kernel
theorem dX9_countRows_80 : decode cX9_countRows 80 = .ok (.iload 4, 2) := by decide +kernel
theorem dX9_countRows_82 : decode cX9_countRows 82 = .ok (.invokevirtual 42, 3) := by decide +kernel
theorem dX9_countRows_85 : decode cX9_countRows 85 = .ok (.iload 7, 2) := by decide +kernel
theorem dX9_countRows_87 : decode cX9_countRows 87 = .ok (.aload_n 0, 1) := by decide +kernel
theorem dX9_countRows_88 : decode cX9_countRows 88 = .ok (.aload_n 2, 1) := by decide +kernel
theorem dX9_countRows_89 : decode cX9_countRows 89 = .ok (.iload 5, 2) := by decide +kernel
theorem dX9_countRows_91 : decode cX9_countRows 91 = .ok (.invokevirtual 46, 3) := by decide +kernel
theorem dX9_countRows_94 : decode cX9_countRows 94 = .ok (.ifCond .eq 7, 3) := by decide +kernel
theorem dX9_countRows_97 : decode cX9_countRows 97 = .ok (.iconst 1, 1) := by decide +kernel
theorem dX9_countRows_98 : decode cX9_countRows 98 = .ok (.goto 4, 3) := by decide +kernel
theorem dX9_countRows_101 : decode cX9_countRows 101 = .ok (.iconst 0, 1) := by decide +kernel
theorem dX9_countRows_102 : decode cX9_countRows 102 = .ok (.iadd, 1) := by decide +kernel
theorem dX9_countRows_103 : decode cX9_countRows 103 = .ok (.istore 7, 2) := by decide +kernel
theorem dX9_countRows_105 : decode cX9_countRows 105 = .ok (.aload_n 0, 1) := by decide +kernel
theorem dX9_countRows_106 : decode cX9_countRows 106 = .ok (.aload_n 1, 1) := by decide +kernel
theorem dX9_countRows_107 : decode cX9_countRows 107 = .ok (.getfield 32, 3) := by decide +kernel
theorem dX9_countRows_110 : decode cX9_countRows 110 = .ok (.iload_n 3, 1) := by decide +kernel
theorem dX9_countRows_111 : decode cX9_countRows 111 = .ok (.invokevirtual 50, 3) := by decide +kernel
theorem dX9_countRows_114 : decode cX9_countRows 114 = .ok (.iinc 8 1, 3) := by decide +kernel
theorem dX9_countRows_117 : decode cX9_countRows 117 = .ok (.goto (-55), 3) := by decide +kernel
theorem dX9_countRows_120 : decode cX9_countRows 120 = .ok (.iload 7, 2) := by decide +kernel
theorem dX9_countRows_122 : decode cX9_countRows 122 = .ok (.ireturn, 1) := by decide +kernel
theorem dX9_play_0 : decode cX9_play 0 = .ok (.aload_n 2, 1) := by decide +kernel
theorem dX9_play_1 : decode cX9_play 1 = .ok (.aload_n 1, 1) := by decide +kernel
theorem dX9_play_2 : decode cX9_play 2 = .ok (.invokevirtual 54, 3) := by decide +kernel
theorem dX9_play_5 : decode cX9_play 5 = .ok (.iconst 0, 1) := by decide +kernel
theorem dX9_play_6 : decode cX9_play 6 = .ok (.istore 4, 2) := by decide +kernel
theorem dX9_play_8 : decode cX9_play 8 = .ok (.iload 4, 2) := by decide +kernel
theorem dX9_play_10 : decode cX9_play 10 = .ok (.iload_n 3, 1) := by decide +kernel
theorem dX9_play_11 : decode cX9_play 11 = .ok (.if_icmp .ge 60, 3) := by decide +kernel
theorem dX9_play_14 : decode cX9_play 14 = .ok (.iconst 0, 1) := by decide +kernel
theorem dX9_play_15 : decode cX9_play 15 = .ok (.istore 5, 2) := by decide +kernel
theorem dX9_play_17 : decode cX9_play 17 = .ok (.iload 5, 2) := by decide +kernel
theorem dX9_play_19 : decode cX9_play 19 = .ok (.aload_n 1, 1) := by decide +kernel
theorem dX9_play_20 : decode cX9_play 20 = .ok (.getfield 32, 3) := by decide +kernel
theorem dX9_play_23 : decode cX9_play 23 = .ok (.if_icmp .ge 42, 3) := by decide +kernel
theorem dX9_play_26 : decode cX9_play 26 = .ok (.iload 4, 2) := by decide +kernel
theorem dX9_play_28 : decode cX9_play 28 = .ok (.aload_n 0, 1) := by decide +kernel
theorem dX9_play_29 : decode cX9_play 29 = .ok (.getfield 21, 3) := by decide +kernel
theorem dX9_play_32 : decode cX9_play 32 = .ok (.iload 5, 2) := by decide +kernel
theorem dX9_play_34 : decode cX9_play 34 = .ok (.invokestatic 60, 3) := by decide +kernel
theorem dX9_play_37 : decode cX9_play 37 = .ok (.if_icmp .lt 22, 3) := by decide +kernel
theorem dX9_play_40 : decode cX9_play 40 = .ok (.aload_n 2, 1) := by decide +kernel
theorem dX9_play_41 : decode cX9_play 41 = .ok (.aload_n 1, 1) := by decide +kernel
theorem dX9_play_42 : decode cX9_play 42 = .ok (.iload 5, 2) := by decide +kernel
theorem dX9_play_44 : decode cX9_play 44 = .ok (.iload 4, 2) := by decide +kernel
theorem dX9_play_46 : decode cX9_play 46 = .ok (.aload_n 0, 1) := by decide +kernel
theorem dX9_play_47 : decode cX9_play 47 = .ok (.getfield 21, 3) := by decide +kernel
theorem dX9_play_50 : decode cX9_play 50 = .ok (.iload 5, 2) := by decide +kernel
theorem dX9_play_52 : decode cX9_play 52 = .ok (.invokestatic 60, 3) := by decide +kernel
theorem dX9_play_55 : decode cX9_play 55 = .ok (.isub, 1) := by decide +kernel
theorem dX9_play_56 : decode cX9_play 56 = .ok (.invokevirtual 64, 3) := by decide +kernel
theorem dX9_play_59 : decode cX9_play 59 = .ok (.iinc 5 1, 3) := by decide +kernel
theorem dX9_play_62 : decode cX9_play 62 = .ok (.goto (-45), 3) := by decide +kernel
theorem dX9_play_65 : decode cX9_play 65 = .ok (.iinc 4 1, 3) := by decide +kernel
theorem dX9_play_68 : decode cX9_play 68 = .ok (.goto (-60), 3) := by decide +kernel
theorem dX9_play_71 : decode cX9_play 71 = .ok (.return_, 1) := by decide +kernel
theorem dX9_fits_0 : decode cX9_fits 0 = .ok (.iconst 0, 1) := by decide +kernel
theorem dX9_fits_1 : decode cX9_fits 1 = .ok (.istore_n 3, 1) := by decide +kernel
theorem dX9_fits_2 : decode cX9_fits 2 = .ok (.iload_n 3, 1) := by decide +kernel
theorem dX9_fits_3 : decode cX9_fits 3 = .ok (.iload_n 2, 1) := by decide +kernel
theorem dX9_fits_4 : decode cX9_fits 4 = .ok (.if_icmp .ge 62, 3) := by decide +kernel
theorem dX9_fits_7 : decode cX9_fits 7 = .ok (.aload_n 1, 1) := by decide +kernel
theorem dX9_fits_8 : decode cX9_fits 8 = .ok (.aload_n 0, 1) := by decide +kernel
theorem dX9_fits_9 : decode cX9_fits 9 = .ok (.getfield 9, 3) := by decide +kernel
theorem dX9_fits_12 : decode cX9_fits 12 = .ok (.iload_n 3, 1) := by decide +kernel
theorem dX9_fits_13 : decode cX9_fits 13 = .ok (.invokestatic 60, 3) := by decide +kernel
theorem dX9_fits_16 : decode cX9_fits 16 = .ok (.aload_n 0, 1) := by decide +kernel
theorem dX9_fits_17 : decode cX9_fits 17 = .ok (.getfield 15, 3) := by decide +kernel
theorem dX9_fits_20 : decode cX9_fits 20 = .ok (.iload_n 3, 1) := by decide +kernel
theorem dX9_fits_21 : decode cX9_fits 21 = .ok (.invokestatic 60, 3) := by decide +kernel
theorem dX9_fits_24 : decode cX9_fits 24 = .ok (.invokevirtual 68, 3) := by decide +kernel
theorem dX9_fits_27 : decode cX9_fits 27 = .ok (.ifCond .le 7, 3) := by decide +kernel
theorem dX9_fits_30 : decode cX9_fits 30 = .ok (.iconst 1, 1) := by decide +kernel
theorem dX9_fits_31 : decode cX9_fits 31 = .ok (.goto 4, 3) := by decide +kernel
theorem dX9_fits_34 : decode cX9_fits 34 = .ok (.iconst 0, 1) := by decide +kernel
theorem dX9_fits_35 : decode cX9_fits 35 = .ok (.istore 4, 2) := by decide +kernel
theorem dX9_fits_37 : decode cX9_fits 37 = .ok (.iload 4, 2) := by decide +kernel
theorem dX9_fits_39 : decode cX9_fits 39 = .ok (.aload_n 0, 1) := by decide +kernel
theorem dX9_fits_40 : decode cX9_fits 40 = .ok (.getfield 18, 3) := by decide +kernel
theorem dX9_fits_43 : decode cX9_fits 43 = .ok (.iload_n 3, 1) := by decide +kernel
theorem dX9_fits_44 : decode cX9_fits 44 = .ok (.invokestatic 60, 3) := by decide +kernel
theorem dX9_fits_47 : decode cX9_fits 47 = .ok (.ifCond .eq 7, 3) := by decide +kernel
theorem dX9_fits_50 : decode cX9_fits 50 = .ok (.iconst 1, 1) := by decide +kernel
theorem dX9_fits_51 : decode cX9_fits 51 = .ok (.goto 4, 3) := by decide +kernel
theorem dX9_fits_54 : decode cX9_fits 54 = .ok (.iconst 0, 1) := by decide +kernel
theorem dX9_fits_55 : decode cX9_fits 55 = .ok (.if_icmp .eq 5, 3) := by decide +kernel
theorem dX9_fits_58 : decode cX9_fits 58 = .ok (.iconst 0, 1) := by decide +kernel
theorem dX9_fits_59 : decode cX9_fits 59 = .ok (.ireturn, 1) := by decide +kernel
theorem dX9_fits_60 : decode cX9_fits 60 = .ok (.iinc 3 1, 3) := by decide +kernel
theorem dX9_fits_63 : decode cX9_fits 63 = .ok (.goto (-61), 3) := by decide +kernel
theorem dX9_fits_66 : decode cX9_fits 66 = .ok (.iconst 1, 1) := by decide +kernel
theorem dX9_fits_67 : decode cX9_fits 67 = .ok (.ireturn, 1) := by decide +kernel
theorem dX9_advance_0 : decode cX9_advance 0 = .ok (.iconst 0, 1) := by decide +kernel
theorem dX9_advance_1 : decode cX9_advance 1 = .ok (.istore_n 3, 1) := by decide +kernel
theorem dX9_advance_2 : decode cX9_advance 2 = .ok (.iload_n 3, 1) := by decide +kernel
theorem dX9_advance_3 : decode cX9_advance 3 = .ok (.iload_n 1, 1) := by decide +kernel
theorem dX9_advance_4 : decode cX9_advance 4 = .ok (.if_icmp .ge 49, 3) := by decide +kernel
theorem dX9_advance_7 : decode cX9_advance 7 = .ok (.aload_n 0, 1) := by decide +kernel
theorem dX9_advance_8 : decode cX9_advance 8 = .ok (.getfield 21, 3) := by decide +kernel
theorem dX9_advance_11 : decode cX9_advance 11 = .ok (.iload_n 3, 1) := by decide +kernel
theorem dX9_advance_12 : decode cX9_advance 12 = .ok (.invokestatic 60, 3) := by decide +kernel
theorem dX9_advance_15 : decode cX9_advance 15 = .ok (.iload_n 2, 1) := by decide +kernel
theorem dX9_advance_16 : decode cX9_advance 16 = .ok (.if_icmp .ge 22, 3) := by decide +kernel
theorem dX9_advance_19 : decode cX9_advance 19 = .ok (.aload_n 0, 1) := by decide +kernel
theorem dX9_advance_20 : decode cX9_advance 20 = .ok (.getfield 21, 3) := by decide +kernel
theorem dX9_advance_23 : decode cX9_advance 23 = .ok (.iload_n 3, 1) := by decide +kernel
theorem dX9_advance_24 : decode cX9_advance 24 = .ok (.aload_n 0, 1) := by decide +kernel
theorem dX9_advance_25 : decode cX9_advance 25 = .ok (.getfield 21, 3) := by decide +kernel
theorem dX9_advance_28 : decode cX9_advance 28 = .ok (.iload_n 3, 1) := by decide +kernel
theorem dX9_advance_29 : decode cX9_advance 29 = .ok (.invokestatic 60, 3) := by decide +kernel
theorem dX9_advance_32 : decode cX9_advance 32 = .ok (.iconst 1, 1) := by decide +kernel
theorem dX9_advance_33 : decode cX9_advance 33 = .ok (.iadd, 1) := by decide +kernel
theorem dX9_advance_34 : decode cX9_advance 34 = .ok (.invokestatic 28, 3) := by decide +kernel
theorem dX9_advance_37 : decode cX9_advance 37 = .ok (.return_, 1) := by decide +kernel
theorem dX9_advance_38 : decode cX9_advance 38 = .ok (.aload_n 0, 1) := by decide +kernel
theorem dX9_advance_39 : decode cX9_advance 39 = .ok (.getfield 21, 3) := by decide +kernel
theorem dX9_advance_42 : decode cX9_advance 42 = .ok (.iload_n 3, 1) := by decide +kernel
theorem dX9_advance_43 : decode cX9_advance 43 = .ok (.iconst 0, 1) := by decide +kernel
theorem dX9_advance_44 : decode cX9_advance 44 = .ok (.invokestatic 28, 3) := by decide +kernel
theorem dX9_advance_47 : decode cX9_advance 47 = .ok (.iinc 3 1, 3) := by decide +kernel
theorem dX9_advance_50 : decode cX9_advance 50 = .ok (.goto (-48), 3) := by decide +kernel
theorem dX9_advance_53 : decode cX9_advance 53 = .ok (.return_, 1) := by decide +kernel
theorem dX10_init_0 : decode cX10_init 0 = .ok (.aload_n 0, 1) := by decide +kernel
theorem dX10_init_1 : decode cX10_init 1 = .ok (.invokespecial 3, 3) := by decide +kernel
theorem dX10_init_4 : decode cX10_init 4 = .ok (.aload_n 0, 1) := by decide +kernel
theorem dX10_init_5 : decode cX10_init 5 = .ok (.bipush 6, 2) := by decide +kernel
theorem dX10_init_7 : decode cX10_init 7 = .ok (.newarray .int, 2) := by decide +kernel
theorem dX10_init_9 : decode cX10_init 9 = .ok (.putfield 9, 3) := by decide +kernel
theorem dX10_init_12 : decode cX10_init 12 = .ok (.aload_n 0, 1) := by decide +kernel
theorem dX10_init_13 : decode cX10_init 13 = .ok (.sipush 384, 3) := by decide +kernel
theorem dX10_init_16 : decode cX10_init 16 = .ok (.newarray .int, 2) := by decide +kernel
theorem dX10_init_18 : decode cX10_init 18 = .ok (.putfield 15, 3) := by decide +kernel
theorem dX10_init_21 : decode cX10_init 21 = .ok (.return_, 1) := by decide +kernel
theorem dX10_prepare_0 : decode cX10_prepare 0 = .ok (.aload_n 1, 1) := by decide +kernel
theorem dX10_prepare_1 : decode cX10_prepare 1 = .ok (.getfield 18, 3) := by decide +kernel
theorem dX10_prepare_4 : decode cX10_prepare 4 = .ok (.iload_n 2, 1) := by decide +kernel
theorem dX10_prepare_5 : decode cX10_prepare 5 = .ok (.invokestatic 23, 3) := by decide +kernel
theorem dX10_prepare_8 : decode cX10_prepare 8 = .ok (.istore_n 3, 1) := by decide +kernel
theorem dX10_prepare_9 : decode cX10_prepare 9 = .ok (.iconst 1, 1) := by decide +kernel
theorem dX10_prepare_10 : decode cX10_prepare 10 = .ok (.istore 4, 2) := by decide +kernel
theorem dX10_prepare_12 : decode cX10_prepare 12 = .ok (.iload 4, 2) := by decide +kernel
theorem dX10_prepare_14 : decode cX10_prepare 14 = .ok (.bipush 64, 2) := by decide +kernel
theorem dX10_prepare_16 : decode cX10_prepare 16 = .ok (.if_icmp .ge 109, 3) := by decide +kernel
theorem dX10_prepare_19 : decode cX10_prepare 19 = .ok (.iload 4, 2) := by decide +kernel
theorem dX10_prepare_21 : decode cX10_prepare 21 = .ok (.iconst 1, 1) := by decide +kernel
theorem dX10_prepare_22 : decode cX10_prepare 22 = .ok (.iload_n 3, 1) := by decide +kernel
theorem dX10_prepare_23 : decode cX10_prepare 23 = .ok (.ishl, 1) := by decide +kernel
theorem dX10_prepare_24 : decode cX10_prepare 24 = .ok (.if_icmp .ge 101, 3) := by decide +kernel
theorem dX10_prepare_27 : decode cX10_prepare 27 = .ok (.iconst 0, 1) := by decide +kernel
theorem dX10_prepare_28 : decode cX10_prepare 28 = .ok (.istore 5, 2) := by decide +kernel
theorem dX10_prepare_30 : decode cX10_prepare 30 = .ok (.iload 5, 2) := by decide +kernel
theorem dX10_prepare_32 : decode cX10_prepare 32 = .ok (.iload_n 3, 1) := by decide +kernel
theorem dX10_prepare_33 : decode cX10_prepare 33 = .ok (.if_icmp .ge 86, 3) := by decide +kernel
theorem dX10_prepare_36 : decode cX10_prepare 36 = .ok (.iload 4, 2) := by decide +kernel
theorem dX10_prepare_38 : decode cX10_prepare 38 = .ok (.iconst 1, 1) := by decide +kernel
theorem dX10_prepare_39 : decode cX10_prepare 39 = .ok (.iload 5, 2) := by decide +kernel
theorem dX10_prepare_41 : decode cX10_prepare 41 = .ok (.ishl, 1) := by decide +kernel
theorem dX10_prepare_42 : decode cX10_prepare 42 = .ok (.iconst (-1), 1) := by decide +kernel
theorem dX10_prepare_43 : decode cX10_prepare 43 = .ok (.ixor, 1) := by decide +kernel
theorem dX10_prepare_44 : decode cX10_prepare 44 = .ok (.iand, 1) := by decide +kernel
theorem dX10_prepare_45 : decode cX10_prepare 45 = .ok (.istore 6, 2) := by decide +kernel
theorem dX10_prepare_47 : decode cX10_prepare 47 = .ok (.iload 6, 2) := by decide +kernel
theorem dX10_prepare_49 : decode cX10_prepare 49 = .ok (.iload 4, 2) := by decide +kernel
theorem dX10_prepare_51 : decode cX10_prepare 51 = .ok (.if_icmp .eq 62, 3) := by decide +kernel
theorem dX10_prepare_54 : decode cX10_prepare 54 = .ok (.aload_n 1, 1) := by decide +kernel
theorem dX10_prepare_55 : decode cX10_prepare 55 = .ok (.getfield 27, 3) := by decide +kernel
theorem dX10_prepare_58 : decode cX10_prepare 58 = .ok (.iload_n 2, 1) := by decide +kernel
theorem dX10_prepare_59 : decode cX10_prepare 59 = .ok (.bipush 6, 2) := by decide +kernel
theorem dX10_prepare_61 : decode cX10_prepare 61 = .ok (.imul, 1) := by decide +kernel
theorem dX10_prepare_62 : decode cX10_prepare 62 = .ok (.iload 5, 2) := by decide +kernel
theorem dX10_prepare_64 : decode cX10_prepare 64 = .ok (.iadd, 1) := by decide +kernel
theorem dX10_prepare_65 : decode cX10_prepare 65 = .ok (.invokestatic 23, 3) := by decide +kernel
theorem dX10_prepare_68 : decode cX10_prepare 68 = .ok (.istore 7, 2) := by decide +kernel
theorem dX10_prepare_70 : decode cX10_prepare 70 = .ok (.aload_n 1, 1) := by decide +kernel
theorem dX10_prepare_71 : decode cX10_prepare 71 = .ok (.getfield 30, 3) := by decide +kernel
theorem dX10_prepare_74 : decode cX10_prepare 74 = .ok (.iload_n 2, 1) := by decide +kernel
theorem dX10_prepare_75 : decode cX10_prepare 75 = .ok (.bipush 6, 2) := by decide +kernel
theorem dX10_prepare_77 : decode cX10_prepare 77 = .ok (.imul, 1) := by decide +kernel
theorem dX10_prepare_78 : decode cX10_prepare 78 = .ok (.iload 5, 2) := by decide +kernel
theorem dX10_prepare_80 : decode cX10_prepare 80 = .ok (.iadd, 1) := by decide +kernel
theorem dX10_prepare_81 : decode cX10_prepare 81 = .ok (.invokestatic 23, 3) := by decide +kernel
theorem dX10_prepare_84 : decode cX10_prepare 84 = .ok (.istore 8, 2) := by decide +kernel
theorem dX10_prepare_86 : decode cX10_prepare 86 = .ok (.aload_n 0, 1) := by decide +kernel
theorem dX10_prepare_87 : decode cX10_prepare 87 = .ok (.getfield 15, 3) := by decide +kernel
theorem dX10_prepare_90 : decode cX10_prepare 90 = .ok (.iload 4, 2) := by decide +kernel
theorem dX10_prepare_92 : decode cX10_prepare 92 = .ok (.bipush 6, 2) := by decide +kernel
theorem dX10_prepare_94 : decode cX10_prepare 94 = .ok (.imul, 1) := by decide +kernel
theorem dX10_prepare_95 : decode cX10_prepare 95 = .ok (.iload 5, 2) := by decide +kernel
theorem dX10_prepare_97 : decode cX10_prepare 97 = .ok (.iadd, 1) := by decide +kernel
theorem dX10_prepare_98 : decode cX10_prepare 98 = .ok (.aload_n 0, 1) := by decide +kernel
theorem dX10_prepare_99 : decode cX10_prepare 99 = .ok (.aload_n 1, 1) := by decide +kernel
theorem dX10_prepare_100 : decode cX10_prepare 100 = .ok (.iload_n 2, 1) := by decide +kernel
theorem dX10_prepare_101 : decode cX10_prepare 101 = .ok (.iload 6, 2) := by decide +kernel
theorem dX10_prepare_103 : decode cX10_prepare 103 = .ok (.iload 7, 2) := by decide +kernel
theorem dX10_prepare_105 : decode cX10_prepare 105 = .ok (.iload 8, 2) := by decide +kernel
theorem dX10_prepare_107 : decode cX10_prepare 107 = .ok (.invokevirtual 33, 3) := by decide +kernel
theorem dX10_prepare_110 : decode cX10_prepare 110 = .ok (.invokestatic 37, 3) := by decide +kernel
theorem dX10_prepare_113 : decode cX10_prepare 113 = .ok (.iinc 5 1, 3) := by decide +kernel
theorem dX10_prepare_116 : decode cX10_prepare 116 = .ok (.goto (-86), 3) := by decide +kernel
theorem dX10_prepare_119 : decode cX10_prepare 119 = .ok (.iinc 4 1, 3) := by decide +kernel
theorem dX10_prepare_122 : decode cX10_prepare 122 = .ok (.goto (-110), 3) := by decide +kernel
theorem dX10_prepare_125 : decode cX10_prepare 125 = .ok (.return_, 1) := by decide +kernel
theorem dX10_nextOf_0 : decode cX10_nextOf 0 = .ok (.iconst (-1), 1) := by decide +kernel
theorem dX10_nextOf_1 : decode cX10_nextOf 1 = .ok (.istore 6, 2) := by decide +kernel
theorem dX10_nextOf_3 : decode cX10_nextOf 3 = .ok (.ldc 41, 2) := by decide +kernel
theorem dX10_nextOf_5 : decode cX10_nextOf 5 = .ok (.istore 7, 2) := by decide +kernel
theorem dX10_nextOf_7 : decode cX10_nextOf 7 = .ok (.iconst 0, 1) := by decide +kernel
theorem dX10_nextOf_8 : decode cX10_nextOf 8 = .ok (.istore 8, 2) := by decide +kernel
theorem dX10_nextOf_10 : decode cX10_nextOf 10 = .ok (.iload 8, 2) := by decide +kernel
theorem dX10_nextOf_12 : decode cX10_nextOf 12 = .ok (.bipush 6, 2) := by decide +kernel
theorem dX10_nextOf_14 : decode cX10_nextOf 14 = .ok (.if_icmp .ge 61, 3) := by decide +kernel
theorem dX10_nextOf_17 : decode cX10_nextOf 17 = .ok (.aload_n 1, 1) := by decide +kernel
theorem dX10_nextOf_18 : decode cX10_nextOf 18 = .ok (.iload_n 2, 1) := by decide +kernel
theorem dX10_nextOf_19 : decode cX10_nextOf 19 = .ok (.iload 8, 2) := by decide +kernel
theorem dX10_nextOf_21 : decode cX10_nextOf 21 = .ok (.iload 4, 2) := by decide +kernel
theorem dX10_nextOf_23 : decode cX10_nextOf 23 = .ok (.iload 5, 2) := by decide +kernel
theorem dX10_nextOf_25 : decode cX10_nextOf 25 = .ok (.invokevirtual 42, 3) := by decide +kernel
theorem dX10_nextOf_28 : decode cX10_nextOf 28 = .ok (.aload_n 0, 1) := by decide +kernel
theorem dX10_nextOf_29 : decode cX10_nextOf 29 = .ok (.getfield 15, 3) := by decide +kernel
theorem dX10_nextOf_32 : decode cX10_nextOf 32 = .ok (.iload_n 3, 1) := by decide +kernel
theorem dX10_nextOf_33 : decode cX10_nextOf 33 = .ok (.bipush 6, 2) := by decide +kernel
theorem dX10_nextOf_35 : decode cX10_nextOf 35 = .ok (.imul, 1) := by decide +kernel
theorem dX10_nextOf_36 : decode cX10_nextOf 36 = .ok (.iload 8, 2) := by decide +kernel
theorem dX10_nextOf_38 : decode cX10_nextOf 38 = .ok (.iadd, 1) := by decide +kernel
theorem dX10_nextOf_39 : decode cX10_nextOf 39 = .ok (.invokestatic 23, 3) := by decide +kernel
theorem dX10_nextOf_42 : decode cX10_nextOf 42 = .ok (.iadd, 1) := by decide +kernel
theorem dX10_nextOf_43 : decode cX10_nextOf 43 = .ok (.istore 9, 2) := by decide +kernel
theorem dX10_nextOf_45 : decode cX10_nextOf 45 = .ok (.iload_n 3, 1) := by decide +kernel
theorem dX10_nextOf_46 : decode cX10_nextOf 46 = .ok (.iload 8, 2) := by decide +kernel
theorem dX10_nextOf_48 : decode cX10_nextOf 48 = .ok (.ishr, 1) := by decide +kernel
theorem dX10_nextOf_49 : decode cX10_nextOf 49 = .ok (.iconst 1, 1) := by decide +kernel
theorem dX10_nextOf_50 : decode cX10_nextOf 50 = .ok (.iand, 1) := by decide +kernel
theorem dX10_nextOf_51 : decode cX10_nextOf 51 = .ok (.ifCond .eq 18, 3) := by decide +kernel
theorem dX10_nextOf_54 : decode cX10_nextOf 54 = .ok (.iload 9, 2) := by decide +kernel
theorem dX10_nextOf_56 : decode cX10_nextOf 56 = .ok (.iload 7, 2) := by decide +kernel
theorem dX10_nextOf_58 : decode cX10_nextOf 58 = .ok (.if_icmp .ge 11, 3) := by decide +kernel
theorem dX10_nextOf_61 : decode cX10_nextOf 61 = .ok (.iload 8, 2) := by decide +kernel
theorem dX10_nextOf_63 : decode cX10_nextOf 63 = .ok (.istore 6, 2) := by decide +kernel
theorem dX10_nextOf_65 : decode cX10_nextOf 65 = .ok (.iload 9, 2) := by decide +kernel
theorem dX10_nextOf_67 : decode cX10_nextOf 67 = .ok (.istore 7, 2) := by decide +kernel
theorem dX10_nextOf_69 : decode cX10_nextOf 69 = .ok (.iinc 8 1, 3) := by decide +kernel
theorem dX10_nextOf_72 : decode cX10_nextOf 72 = .ok (.goto (-62), 3) := by decide +kernel
theorem dX10_nextOf_75 : decode cX10_nextOf 75 = .ok (.iload 6, 2) := by decide +kernel
theorem dX10_nextOf_77 : decode cX10_nextOf 77 = .ok (.ireturn, 1) := by decide +kernel
theorem dX10_cheapest_0 : decode cX10_cheapest 0 = .ok (.aload_n 0, 1) := by decide +kernel
theorem dX10_cheapest_1 : decode cX10_cheapest 1 = .ok (.aload_n 1, 1) := by decide +kernel
theorem dX10_cheapest_2 : decode cX10_cheapest 2 = .ok (.iload_n 2, 1) := by decide +kernel
theorem dX10_cheapest_3 : decode cX10_cheapest 3 = .ok (.iload_n 3, 1) := by decide +kernel
theorem dX10_cheapest_4 : decode cX10_cheapest 4 = .ok (.iload 4, 2) := by decide +kernel
theorem dX10_cheapest_6 : decode cX10_cheapest 6 = .ok (.iload 5, 2) := by decide +kernel
theorem dX10_cheapest_8 : decode cX10_cheapest 8 = .ok (.invokevirtual 46, 3) := by decide +kernel
theorem dX10_cheapest_11 : decode cX10_cheapest 11 = .ok (.istore 6, 2) := by decide +kernel
theorem dX10_cheapest_13 : decode cX10_cheapest 13 = .ok (.iload 6, 2) := by decide +kernel
theorem dX10_cheapest_15 : decode cX10_cheapest 15 = .ok (.iconst (-1), 1) := by decide +kernel
theorem dX10_cheapest_16 : decode cX10_cheapest 16 = .ok (.if_icmp .ne 7, 3) := by decide +kernel
theorem dX10_cheapest_19 : decode cX10_cheapest 19 = .ok (.iconst 0, 1) := by decide +kernel
theorem dX10_cheapest_20 : decode cX10_cheapest 20 = .ok (.goto 29, 3) := by decide +kernel
theorem dX10_cheapest_23 : decode cX10_cheapest 23 = .ok (.aload_n 1, 1) := by decide +kernel
theorem dX10_cheapest_24 : decode cX10_cheapest 24 = .ok (.iload_n 2, 1) := by decide +kernel
theorem dX10_cheapest_25 : decode cX10_cheapest 25 = .ok (.iload 6, 2) := by decide +kernel
theorem dX10_cheapest_27 : decode cX10_cheapest 27 = .ok (.iload 4, 2) := by decide +kernel
theorem dX10_cheapest_29 : decode cX10_cheapest 29 = .ok (.iload 5, 2) := by decide +kernel
theorem dX10_cheapest_31 : decode cX10_cheapest 31 = .ok (.invokevirtual 42, 3) := by decide +kernel
theorem dX10_cheapest_34 : decode cX10_cheapest 34 = .ok (.aload_n 0, 1) := by decide +kernel
theorem dX10_cheapest_35 : decode cX10_cheapest 35 = .ok (.getfield 15, 3) := by decide +kernel
theorem dX10_cheapest_38 : decode cX10_cheapest 38 = .ok (.iload_n 3, 1) := by decide +kernel
theorem dX10_cheapest_39 : decode cX10_cheapest 39 = .ok (.bipush 6, 2) := by decide +kernel
theorem dX10_cheapest_41 : decode cX10_cheapest 41 = .ok (.imul, 1) := by decide +kernel
theorem dX10_cheapest_42 : decode cX10_cheapest 42 = .ok (.iload 6, 2) := by decide +kernel
theorem dX10_cheapest_44 : decode cX10_cheapest 44 = .ok (.iadd, 1) := by decide +kernel
theorem dX10_cheapest_45 : decode cX10_cheapest 45 = .ok (.invokestatic 23, 3) := by decide +kernel
theorem dX10_cheapest_48 : decode cX10_cheapest 48 = .ok (.iadd, 1) := by decide +kernel
theorem dX10_cheapest_49 : decode cX10_cheapest 49 = .ok (.ireturn, 1) := by decide +kernel
theorem dX10_fewest_0 : decode cX10_fewest 0 = .ok (.aload_n 0, 1) := by decide +kernel
theorem dX10_fewest_1 : decode cX10_fewest 1 = .ok (.aload_n 1, 1) := by decide +kernel
theorem dX10_fewest_2 : decode cX10_fewest 2 = .ok (.iload_n 2, 1) := by decide +kernel
theorem dX10_fewest_3 : decode cX10_fewest 3 = .ok (.iconst 1, 1) := by decide +kernel
theorem dX10_fewest_4 : decode cX10_fewest 4 = .ok (.aload_n 1, 1) := by decide +kernel
theorem dX10_fewest_5 : decode cX10_fewest 5 = .ok (.getfield 18, 3) := by decide +kernel
theorem dX10_fewest_8 : decode cX10_fewest 8 = .ok (.iload_n 2, 1) := by decide +kernel
theorem dX10_fewest_9 : decode cX10_fewest 9 = .ok (.invokestatic 23, 3) := by decide +kernel
theorem dX10_fewest_12 : decode cX10_fewest 12 = .ok (.ishl, 1) := by decide +kernel
theorem dX10_fewest_13 : decode cX10_fewest 13 = .ok (.iconst 1, 1) := by decide +kernel
theorem dX10_fewest_14 : decode cX10_fewest 14 = .ok (.isub, 1) := by decide +kernel
theorem dX10_fewest_15 : decode cX10_fewest 15 = .ok (.iload_n 3, 1) := by decide +kernel
theorem dX10_fewest_16 : decode cX10_fewest 16 = .ok (.iload 4, 2) := by decide +kernel
theorem dX10_fewest_18 : decode cX10_fewest 18 = .ok (.invokevirtual 33, 3) := by decide +kernel
theorem dX10_fewest_21 : decode cX10_fewest 21 = .ok (.ireturn, 1) := by decide +kernel
theorem dX10_findOrder_0 : decode cX10_findOrder 0 = .ok (.aload_n 1, 1) := by decide +kernel
theorem dX10_findOrder_1 : decode cX10_findOrder 1 = .ok (.getfield 49, 3) := by decide +kernel
theorem dX10_findOrder_4 : decode cX10_findOrder 4 = .ok (.iload_n 2, 1) := by decide +kernel
theorem dX10_findOrder_5 : decode cX10_findOrder 5 = .ok (.invokestatic 23, 3) := by decide +kernel
theorem dX10_findOrder_8 : decode cX10_findOrder 8 = .ok (.istore_n 3, 1) := by decide +kernel
theorem dX10_findOrder_9 : decode cX10_findOrder 9 = .ok (.aload_n 1, 1) := by decide +kernel
theorem dX10_findOrder_10 : decode cX10_findOrder 10 = .ok (.getfield 52, 3) := by decide +kernel
theorem dX10_findOrder_13 : decode cX10_findOrder 13 = .ok (.iload_n 2, 1) := by decide +kernel
theorem dX10_findOrder_14 : decode cX10_findOrder 14 = .ok (.invokestatic 23, 3) := by decide +kernel
theorem dX10_findOrder_17 : decode cX10_findOrder 17 = .ok (.istore 4, 2) := by decide +kernel
theorem dX10_findOrder_19 : decode cX10_findOrder 19 = .ok (.iconst 1, 1) := by decide +kernel
theorem dX10_findOrder_20 : decode cX10_findOrder 20 = .ok (.aload_n 1, 1) := by decide +kernel
theorem dX10_findOrder_21 : decode cX10_findOrder 21 = .ok (.getfield 18, 3) := by decide +kernel
theorem dX10_findOrder_24 : decode cX10_findOrder 24 = .ok (.iload_n 2, 1) := by decide +kernel
theorem dX10_findOrder_25 : decode cX10_findOrder 25 = .ok (.invokestatic 23, 3) := by decide +kernel
theorem dX10_findOrder_28 : decode cX10_findOrder 28 = .ok (.ishl, 1) := by decide +kernel
theorem dX10_findOrder_29 : decode cX10_findOrder 29 = .ok (.iconst 1, 1) := by decide +kernel
theorem dX10_findOrder_30 : decode cX10_findOrder 30 = .ok (.isub, 1) := by decide +kernel
theorem dX10_findOrder_31 : decode cX10_findOrder 31 = .ok (.istore 5, 2) := by decide +kernel
theorem dX10_findOrder_33 : decode cX10_findOrder 33 = .ok (.iconst 0, 1) := by decide +kernel
theorem dX10_findOrder_34 : decode cX10_findOrder 34 = .ok (.istore 6, 2) := by decide +kernel
theorem dX10_findOrder_36 : decode cX10_findOrder 36 = .ok (.iload 6, 2) := by decide +kernel
theorem dX10_findOrder_38 : decode cX10_findOrder 38 = .ok (.bipush 6, 2) := by decide +kernel
theorem dX10_findOrder_40 : decode cX10_findOrder 40 = .ok (.if_icmp .ge 80, 3) := by decide +kernel
theorem dX10_findOrder_43 : decode cX10_findOrder 43 = .ok (.iload 5, 2) := by decide +kernel
theorem dX10_findOrder_45 : decode cX10_findOrder 45 = .ok (.ifCond .eq 75, 3) := by decide +kernel
theorem dX10_findOrder_48 : decode cX10_findOrder 48 = .ok (.aload_n 0, 1) := by decide +kernel
theorem dX10_findOrder_49 : decode cX10_findOrder 49 = .ok (.aload_n 1, 1) := by decide +kernel
theorem dX10_findOrder_50 : decode cX10_findOrder 50 = .ok (.iload_n 2, 1) := by decide +kernel
theorem dX10_findOrder_51 : decode cX10_findOrder 51 = .ok (.iload 5, 2) := by decide +kernel
theorem dX10_findOrder_53 : decode cX10_findOrder 53 = .ok (.iload_n 3, 1) := by decide +kernel
theorem dX10_findOrder_54 : decode cX10_findOrder 54 = .ok (.iload 4, 2) := by decide +kernel
theorem dX10_findOrder_56 : decode cX10_findOrder 56 = .ok (.invokevirtual 46, 3) := by decide +kernel
theorem dX10_findOrder_59 : decode cX10_findOrder 59 = .ok (.istore 7, 2) := by decide +kernel
theorem dX10_findOrder_61 : decode cX10_findOrder 61 = .ok (.aload_n 0, 1) := by decide +kernel
theorem dX10_findOrder_62 : decode cX10_findOrder 62 = .ok (.getfield 9, 3) := by decide +kernel
theorem dX10_findOrder_65 : decode cX10_findOrder 65 = .ok (.iload 6, 2) := by decide +kernel
theorem dX10_findOrder_67 : decode cX10_findOrder 67 = .ok (.iload 7, 2) := by decide +kernel
theorem dX10_findOrder_69 : decode cX10_findOrder 69 = .ok (.invokestatic 37, 3) := by decide +kernel
theorem dX10_findOrder_72 : decode cX10_findOrder 72 = .ok (.iload 5, 2) := by decide +kernel
theorem dX10_findOrder_74 : decode cX10_findOrder 74 = .ok (.iconst 1, 1) := by decide +kernel
theorem dX10_findOrder_75 : decode cX10_findOrder 75 = .ok (.iload 7, 2) := by decide +kernel
theorem dX10_findOrder_77 : decode cX10_findOrder 77 = .ok (.ishl, 1) := by decide +kernel
theorem dX10_findOrder_78 : decode cX10_findOrder 78 = .ok (.iconst (-1), 1) := by decide +kernel
theorem dX10_findOrder_79 : decode cX10_findOrder 79 = .ok (.ixor, 1) := by decide +kernel
theorem dX10_findOrder_80 : decode cX10_findOrder 80 = .ok (.iand, 1) := by decide +kernel
theorem dX10_findOrder_81 : decode cX10_findOrder 81 = .ok (.istore 5, 2) := by decide +kernel
theorem dX10_findOrder_83 : decode cX10_findOrder 83 = .ok (.aload_n 1, 1) := by decide +kernel
theorem dX10_findOrder_84 : decode cX10_findOrder 84 = .ok (.getfield 27, 3) := by decide +kernel
theorem dX10_findOrder_87 : decode cX10_findOrder 87 = .ok (.iload_n 2, 1) := by decide +kernel
theorem dX10_findOrder_88 : decode cX10_findOrder 88 = .ok (.bipush 6, 2) := by decide +kernel
theorem dX10_findOrder_90 : decode cX10_findOrder 90 = .ok (.imul, 1) := by decide +kernel
theorem dX10_findOrder_91 : decode cX10_findOrder 91 = .ok (.iload 7, 2) := by decide +kernel
theorem dX10_findOrder_93 : decode cX10_findOrder 93 = .ok (.iadd, 1) := by decide +kernel
theorem dX10_findOrder_94 : decode cX10_findOrder 94 = .ok (.invokestatic 23, 3) := by decide +kernel
theorem dX10_findOrder_97 : decode cX10_findOrder 97 = .ok (.istore_n 3, 1) := by decide +kernel
theorem dX10_findOrder_98 : decode cX10_findOrder 98 = .ok (.aload_n 1, 1) := by decide +kernel
theorem dX10_findOrder_99 : decode cX10_findOrder 99 = .ok (.getfield 30, 3) := by decide +kernel
theorem dX10_findOrder_102 : decode cX10_findOrder 102 = .ok (.iload_n 2, 1) := by decide +kernel
theorem dX10_findOrder_103 : decode cX10_findOrder 103 = .ok (.bipush 6, 2) := by decide +kernel
theorem dX10_findOrder_105 : decode cX10_findOrder 105 = .ok (.imul, 1) := by decide +kernel
theorem dX10_findOrder_106 : decode cX10_findOrder 106 = .ok (.iload 7, 2) := by decide +kernel
theorem dX10_findOrder_108 : decode cX10_findOrder 108 = .ok (.iadd, 1) := by decide +kernel
theorem dX10_findOrder_109 : decode cX10_findOrder 109 = .ok (.invokestatic 23, 3) := by decide +kernel
theorem dX10_findOrder_112 : decode cX10_findOrder 112 = .ok (.istore 4, 2) := by decide +kernel
theorem dX10_findOrder_114 : decode cX10_findOrder 114 = .ok (.iinc 6 1, 3) := by decide +kernel
theorem dX10_findOrder_117 : decode cX10_findOrder 117 = .ok (.goto (-81), 3) := by decide +kernel
theorem dX10_findOrder_120 : decode cX10_findOrder 120 = .ok (.return_, 1) := by decide +kernel
theorem dX10_countHomes_0 : decode cX10_countHomes 0 = .ok (.iconst 0, 1) := by decide +kernel
theorem dX10_countHomes_1 : decode cX10_countHomes 1 = .ok (.istore_n 3, 1) := by decide +kernel
theorem dX10_countHomes_2 : decode cX10_countHomes 2 = .ok (.iconst 0, 1) := by decide +kernel
theorem dX10_countHomes_3 : decode cX10_countHomes 3 = .ok (.istore 4, 2) := by decide +kernel
theorem dX10_countHomes_5 : decode cX10_countHomes 5 = .ok (.iload 4, 2) := by decide +kernel
theorem dX10_countHomes_7 : decode cX10_countHomes 7 = .ok (.sipush 144, 3) := by decide +kernel
theorem dX10_countHomes_10 : decode cX10_countHomes 10 = .ok (.if_icmp .ge 58, 3) := by decide +kernel
theorem dX10_countHomes_13 : decode cX10_countHomes 13 = .ok (.iload 4, 2) := by decide +kernel
theorem dX10_countHomes_15 : decode cX10_countHomes 15 = .ok (.bipush 12, 2) := by decide +kernel
theorem dX10_countHomes_17 : decode cX10_countHomes 17 = .ok (.irem, 1) := by decide +kernel
theorem dX10_countHomes_18 : decode cX10_countHomes 18 = .ok (.istore 5, 2) := by decide +kernel
theorem dX10_countHomes_20 : decode cX10_countHomes 20 = .ok (.iload 4, 2) := by decide +kernel
theorem dX10_countHomes_22 : decode cX10_countHomes 22 = .ok (.bipush 12, 2) := by decide +kernel
theorem dX10_countHomes_24 : decode cX10_countHomes 24 = .ok (.idiv, 1) := by decide +kernel
theorem dX10_countHomes_25 : decode cX10_countHomes 25 = .ok (.istore 6, 2) := by decide +kernel
theorem dX10_countHomes_27 : decode cX10_countHomes 27 = .ok (.aload_n 1, 1) := by decide +kernel
theorem dX10_countHomes_28 : decode cX10_countHomes 28 = .ok (.iload 5, 2) := by decide +kernel
theorem dX10_countHomes_30 : decode cX10_countHomes 30 = .ok (.iload 6, 2) := by decide +kernel
theorem dX10_countHomes_32 : decode cX10_countHomes 32 = .ok (.invokevirtual 55, 3) := by decide +kernel
theorem dX10_countHomes_35 : decode cX10_countHomes 35 = .ok (.ifCond .eq 27, 3) := by decide +kernel
theorem dX10_countHomes_38 : decode cX10_countHomes 38 = .ok (.aload_n 0, 1) := by decide +kernel
theorem dX10_countHomes_39 : decode cX10_countHomes 39 = .ok (.aload_n 1, 1) := by decide +kernel
theorem dX10_countHomes_40 : decode cX10_countHomes 40 = .ok (.iload_n 2, 1) := by decide +kernel
theorem dX10_countHomes_41 : decode cX10_countHomes 41 = .ok (.iload 5, 2) := by decide +kernel
theorem dX10_countHomes_43 : decode cX10_countHomes 43 = .ok (.iload 6, 2) := by decide +kernel
theorem dX10_countHomes_45 : decode cX10_countHomes 45 = .ok (.invokevirtual 59, 3) := by decide +kernel
theorem dX10_countHomes_48 : decode cX10_countHomes 48 = .ok (.aload_n 1, 1) := by decide +kernel
theorem dX10_countHomes_49 : decode cX10_countHomes 49 = .ok (.getfield 63, 3) := by decide +kernel
theorem dX10_countHomes_52 : decode cX10_countHomes 52 = .ok (.iload_n 2, 1) := by decide +kernel
theorem dX10_countHomes_53 : decode cX10_countHomes 53 = .ok (.invokestatic 23, 3) := by decide +kernel
theorem dX10_countHomes_56 : decode cX10_countHomes 56 = .ok (.if_icmp .gt 6, 3) := by decide +kernel
theorem dX10_countHomes_59 : decode cX10_countHomes 59 = .ok (.iinc 3 1, 3) := by decide +kernel
theorem dX10_countHomes_62 : decode cX10_countHomes 62 = .ok (.iinc 4 1, 3) := by decide +kernel
theorem dX10_countHomes_65 : decode cX10_countHomes 65 = .ok (.goto (-60), 3) := by decide +kernel
theorem dX10_countHomes_68 : decode cX10_countHomes 68 = .ok (.iload_n 3, 1) := by decide +kernel
theorem dX10_countHomes_69 : decode cX10_countHomes 69 = .ok (.ireturn, 1) := by decide +kernel
theorem dX11_init_0 : decode cX11_init 0 = .ok (.aload_n 0, 1) := by decide +kernel
theorem dX11_init_1 : decode cX11_init 1 = .ok (.invokespecial 3, 3) := by decide +kernel
theorem dX11_init_4 : decode cX11_init 4 = .ok (.aload_n 0, 1) := by decide +kernel
theorem dX11_init_5 : decode cX11_init 5 = .ok (.sipush 2000, 3) := by decide +kernel
theorem dX11_init_8 : decode cX11_init 8 = .ok (.newarray .int, 2) := by decide +kernel
theorem dX11_init_10 : decode cX11_init 10 = .ok (.putfield 9, 3) := by decide +kernel
theorem dX11_init_13 : decode cX11_init 13 = .ok (.aload_n 0, 1) := by decide +kernel
theorem dX11_init_14 : decode cX11_init 14 = .ok (.iconst (-1), 1) := by decide +kernel
theorem dX11_init_15 : decode cX11_init 15 = .ok (.putfield 13, 3) := by decide +kernel
theorem dX11_init_18 : decode cX11_init 18 = .ok (.aload_n 0, 1) := by decide +kernel
theorem dX11_init_19 : decode cX11_init 19 = .ok (.new 17, 3) := by decide +kernel
theorem dX11_init_22 : decode cX11_init 22 = .ok (.dup, 1) := by decide +kernel
theorem dX11_init_23 : decode cX11_init 23 = .ok (.invokespecial 19, 3) := by decide +kernel
theorem dX11_init_26 : decode cX11_init 26 = .ok (.putfield 20, 3) := by decide +kernel
theorem dX11_init_29 : decode cX11_init 29 = .ok (.aload_n 0, 1) := by decide +kernel
theorem dX11_init_30 : decode cX11_init 30 = .ok (.new 24, 3) := by decide +kernel
theorem dX11_init_33 : decode cX11_init 33 = .ok (.dup, 1) := by decide +kernel
theorem dX11_init_34 : decode cX11_init 34 = .ok (.invokespecial 26, 3) := by decide +kernel
theorem dX11_init_37 : decode cX11_init 37 = .ok (.putfield 27, 3) := by decide +kernel
theorem dX11_init_40 : decode cX11_init 40 = .ok (.aload_n 0, 1) := by decide +kernel
theorem dX11_init_41 : decode cX11_init 41 = .ok (.new 31, 3) := by decide +kernel
theorem dX11_init_44 : decode cX11_init 44 = .ok (.dup, 1) := by decide +kernel
theorem dX11_init_45 : decode cX11_init 45 = .ok (.invokespecial 33, 3) := by decide +kernel
theorem dX11_init_48 : decode cX11_init 48 = .ok (.putfield 34, 3) := by decide +kernel
theorem dX11_init_51 : decode cX11_init 51 = .ok (.aload_n 0, 1) := by decide +kernel
theorem dX11_init_52 : decode cX11_init 52 = .ok (.new 31, 3) := by decide +kernel
theorem dX11_init_55 : decode cX11_init 55 = .ok (.dup, 1) := by decide +kernel
theorem dX11_init_56 : decode cX11_init 56 = .ok (.invokespecial 33, 3) := by decide +kernel
theorem dX11_init_59 : decode cX11_init 59 = .ok (.putfield 38, 3) := by decide +kernel
theorem dX11_init_62 : decode cX11_init 62 = .ok (.aload_n 0, 1) := by decide +kernel
theorem dX11_init_63 : decode cX11_init 63 = .ok (.new 41, 3) := by decide +kernel
theorem dX11_init_66 : decode cX11_init 66 = .ok (.dup, 1) := by decide +kernel
theorem dX11_init_67 : decode cX11_init 67 = .ok (.invokespecial 43, 3) := by decide +kernel
theorem dX11_init_70 : decode cX11_init 70 = .ok (.putfield 44, 3) := by decide +kernel
theorem dX11_init_73 : decode cX11_init 73 = .ok (.aload_n 0, 1) := by decide +kernel
theorem dX11_init_74 : decode cX11_init 74 = .ok (.new 48, 3) := by decide +kernel
theorem dX11_init_77 : decode cX11_init 77 = .ok (.dup, 1) := by decide +kernel
theorem dX11_init_78 : decode cX11_init 78 = .ok (.invokespecial 50, 3) := by decide +kernel
theorem dX11_init_81 : decode cX11_init 81 = .ok (.putfield 51, 3) := by decide +kernel
theorem dX11_init_84 : decode cX11_init 84 = .ok (.aload_n 0, 1) := by decide +kernel
theorem dX11_init_85 : decode cX11_init 85 = .ok (.new 55, 3) := by decide +kernel
theorem dX11_init_88 : decode cX11_init 88 = .ok (.dup, 1) := by decide +kernel
theorem dX11_init_89 : decode cX11_init 89 = .ok (.invokespecial 57, 3) := by decide +kernel
theorem dX11_init_92 : decode cX11_init 92 = .ok (.putfield 58, 3) := by decide +kernel
theorem dX11_init_95 : decode cX11_init 95 = .ok (.aload_n 0, 1) := by decide +kernel
theorem dX11_init_96 : decode cX11_init 96 = .ok (.new 62, 3) := by decide +kernel
theorem dX11_init_99 : decode cX11_init 99 = .ok (.dup, 1) := by decide +kernel
theorem dX11_init_100 : decode cX11_init 100 = .ok (.invokespecial 64, 3) := by decide +kernel
theorem dX11_init_103 : decode cX11_init 103 = .ok (.putfield 65, 3) := by decide +kernel
theorem dX11_init_106 : decode cX11_init 106 = .ok (.aload_n 0, 1) := by decide +kernel
theorem dX11_init_107 : decode cX11_init 107 = .ok (.new 69, 3) := by decide +kernel
theorem dX11_init_110 : decode cX11_init 110 = .ok (.dup, 1) := by decide +kernel
theorem dX11_init_111 : decode cX11_init 111 = .ok (.invokespecial 71, 3) := by decide +kernel
theorem dX11_init_114 : decode cX11_init 114 = .ok (.putfield 72, 3) := by decide +kernel
theorem dX11_init_117 : decode cX11_init 117 = .ok (.aload_n 0, 1) := by decide +kernel
theorem dX11_init_118 : decode cX11_init 118 = .ok (.new 76, 3) := by decide +kernel
theorem dX11_init_121 : decode cX11_init 121 = .ok (.dup, 1) := by decide +kernel
theorem dX11_init_122 : decode cX11_init 122 = .ok (.invokespecial 78, 3) := by decide +kernel
theorem dX11_init_125 : decode cX11_init 125 = .ok (.putfield 79, 3) := by decide +kernel
theorem dX11_init_128 : decode cX11_init 128 = .ok (.aload_n 0, 1) := by decide +kernel
theorem dX11_init_129 : decode cX11_init 129 = .ok (.getfield 34, 3) := by decide +kernel
theorem dX11_init_132 : decode cX11_init 132 = .ok (.aload_n 0, 1) := by decide +kernel
theorem dX11_init_133 : decode cX11_init 133 = .ok (.getfield 27, 3) := by decide +kernel
theorem dX11_init_136 : decode cX11_init 136 = .ok (.invokevirtual 83, 3) := by decide +kernel
theorem dX11_init_139 : decode cX11_init 139 = .ok (.return_, 1) := by decide +kernel
theorem dX11_feed_0 : decode cX11_feed 0 = .ok (.aload_n 0, 1) := by decide +kernel
theorem dX11_feed_1 : decode cX11_feed 1 = .ok (.getfield 87, 3) := by decide +kernel
theorem dX11_feed_4 : decode cX11_feed 4 = .ok (.bipush 20, 2) := by decide +kernel
theorem dX11_feed_6 : decode cX11_feed 6 = .ok (.iadd, 1) := by decide +kernel
theorem dX11_feed_7 : decode cX11_feed 7 = .ok (.sipush 2000, 3) := by decide +kernel
theorem dX11_feed_10 : decode cX11_feed 10 = .ok (.if_icmp .le 5, 3) := by decide +kernel
theorem dX11_feed_13 : decode cX11_feed 13 = .ok (.iconst (-1), 1) := by decide +kernel
theorem dX11_feed_14 : decode cX11_feed 14 = .ok (.ireturn, 1) := by decide +kernel
theorem dX11_feed_15 : decode cX11_feed 15 = .ok (.aload_n 0, 1) := by decide +kernel
theorem dX11_feed_16 : decode cX11_feed 16 = .ok (.iload_n 1, 1) := by decide +kernel
theorem dX11_feed_17 : decode cX11_feed 17 = .ok (.invokevirtual 90, 3) := by decide +kernel
theorem dX11_feed_20 : decode cX11_feed 20 = .ok (.aload_n 0, 1) := by decide +kernel
theorem dX11_feed_21 : decode cX11_feed 21 = .ok (.iload_n 2, 1) := by decide +kernel
theorem dX11_feed_22 : decode cX11_feed 22 = .ok (.invokevirtual 90, 3) := by decide +kernel
theorem dX11_feed_25 : decode cX11_feed 25 = .ok (.aload_n 0, 1) := by decide +kernel
theorem dX11_feed_26 : decode cX11_feed 26 = .ok (.iload_n 3, 1) := by decide +kernel
theorem dX11_feed_27 : decode cX11_feed 27 = .ok (.invokevirtual 90, 3) := by decide +kernel
theorem dX11_feed_30 : decode cX11_feed 30 = .ok (.aload_n 0, 1) := by decide +kernel
theorem dX11_feed_31 : decode cX11_feed 31 = .ok (.iload 4, 2) := by decide +kernel
theorem dX11_feed_33 : decode cX11_feed 33 = .ok (.invokevirtual 90, 3) := by decide +kernel
theorem dX11_feed_36 : decode cX11_feed 36 = .ok (.aload_n 0, 1) := by decide +kernel
theorem dX11_feed_37 : decode cX11_feed 37 = .ok (.iload 5, 2) := by decide +kernel
theorem dX11_feed_39 : decode cX11_feed 39 = .ok (.invokevirtual 90, 3) := by decide +kernel
theorem dX11_feed_42 : decode cX11_feed 42 = .ok (.aload_n 0, 1) := by decide +kernel
theorem dX11_feed_43 : decode cX11_feed 43 = .ok (.getfield 87, 3) := by decide +kernel
theorem dX11_feed_46 : decode cX11_feed 46 = .ok (.ireturn, 1) := by decide +kernel
theorem dX11_putWord_0 : decode cX11_putWord 0 = .ok (.bipush 24, 2) := by decide +kernel
theorem dX11_putWord_2 : decode cX11_putWord 2 = .ok (.istore_n 2, 1) := by decide +kernel
theorem dX11_putWord_3 : decode cX11_putWord 3 = .ok (.iload_n 2, 1) := by decide +kernel
theorem dX11_putWord_4 : decode cX11_putWord 4 = .ok (.ifCond .lt 37, 3) := by decide +kernel
theorem dX11_putWord_7 : decode cX11_putWord 7 = .ok (.aload_n 0, 1) := by decide +kernel
theorem dX11_putWord_8 : decode cX11_putWord 8 = .ok (.getfield 9, 3) := by decide +kernel
theorem dX11_putWord_11 : decode cX11_putWord 11 = .ok (.aload_n 0, 1) := by decide +kernel
theorem dX11_putWord_12 : decode cX11_putWord 12 = .ok (.getfield 87, 3) := by decide +kernel
theorem dX11_putWord_15 : decode cX11_putWord 15 = .ok (.iload_n 1, 1) := by decide +kernel
theorem dX11_putWord_16 : decode cX11_putWord 16 = .ok (.iload_n 2, 1) := by decide +kernel
theorem dX11_putWord_17 : decode cX11_putWord 17 = .ok (.iushr, 1) := by decide +kernel
theorem dX11_putWord_18 : decode cX11_putWord 18 = .ok (.sipush 255, 3) := by decide +kernel
theorem dX11_putWord_21 : decode cX11_putWord 21 = .ok (.iand, 1) := by decide +kernel
theorem dX11_putWord_22 : decode cX11_putWord 22 = .ok (.invokestatic 94, 3) := by decide +kernel
theorem dX11_putWord_25 : decode cX11_putWord 25 = .ok (.aload_n 0, 1) := by decide +kernel
theorem dX11_putWord_26 : decode cX11_putWord 26 = .ok (.dup, 1) := by decide +kernel
theorem dX11_putWord_27 : decode cX11_putWord 27 = .ok (.getfield 87, 3) := by decide +kernel
theorem dX11_putWord_30 : decode cX11_putWord 30 = .ok (.iconst 1, 1) := by decide +kernel
theorem dX11_putWord_31 : decode cX11_putWord 31 = .ok (.iadd, 1) := by decide +kernel
theorem dX11_putWord_32 : decode cX11_putWord 32 = .ok (.putfield 87, 3) := by decide +kernel
theorem dX11_putWord_35 : decode cX11_putWord 35 = .ok (.iinc 2 (-8), 3) := by decide +kernel
theorem dX11_putWord_38 : decode cX11_putWord 38 = .ok (.goto (-35), 3) := by decide +kernel
theorem dX11_putWord_41 : decode cX11_putWord 41 = .ok (.return_, 1) := by decide +kernel
theorem dX11_back_0 : decode cX11_back 0 = .ok (.iload_n 1, 1) := by decide +kernel
theorem dX11_back_1 : decode cX11_back 1 = .ok (.ifCond .lt 11, 3) := by decide +kernel
theorem dX11_back_4 : decode cX11_back 4 = .ok (.iload_n 1, 1) := by decide +kernel
theorem dX11_back_5 : decode cX11_back 5 = .ok (.aload_n 0, 1) := by decide +kernel
theorem dX11_back_6 : decode cX11_back 6 = .ok (.getfield 87, 3) := by decide +kernel
theorem dX11_back_9 : decode cX11_back 9 = .ok (.if_icmp .le 5, 3) := by decide +kernel
theorem dX11_back_12 : decode cX11_back 12 = .ok (.iconst (-1), 1) := by decide +kernel
theorem dX11_back_13 : decode cX11_back 13 = .ok (.ireturn, 1) := by decide +kernel
theorem dX11_back_14 : decode cX11_back 14 = .ok (.aload_n 0, 1) := by decide +kernel
theorem dX11_back_15 : decode cX11_back 15 = .ok (.dup, 1) := by decide +kernel
theorem dX11_back_16 : decode cX11_back 16 = .ok (.getfield 87, 3) := by decide +kernel
theorem dX11_back_19 : decode cX11_back 19 = .ok (.iload_n 1, 1) := by decide +kernel
theorem dX11_back_20 : decode cX11_back 20 = .ok (.isub, 1) := by decide +kernel
theorem dX11_back_21 : decode cX11_back 21 = .ok (.putfield 87, 3) := by decide +kernel
theorem dX11_back_24 : decode cX11_back 24 = .ok (.aload_n 0, 1) := by decide +kernel
theorem dX11_back_25 : decode cX11_back 25 = .ok (.getfield 87, 3) := by decide +kernel
theorem dX11_back_28 : decode cX11_back 28 = .ok (.ireturn, 1) := by decide +kernel
theorem dX11_read_0 : decode cX11_read 0 = .ok (.aload_n 0, 1) := by decide +kernel
theorem dX11_read_1 : decode cX11_read 1 = .ok (.getfield 20, 3) := by decide +kernel
theorem dX11_read_4 : decode cX11_read 4 = .ok (.aload_n 0, 1) := by decide +kernel
theorem dX11_read_5 : decode cX11_read 5 = .ok (.getfield 9, 3) := by decide +kernel
theorem dX11_read_8 : decode cX11_read 8 = .ok (.aload_n 0, 1) := by decide +kernel
theorem dX11_read_9 : decode cX11_read 9 = .ok (.getfield 87, 3) := by decide +kernel
theorem dX11_read_12 : decode cX11_read 12 = .ok (.invokevirtual 98, 3) := by decide +kernel
theorem dX11_read_15 : decode cX11_read 15 = .ok (.aload_n 0, 1) := by decide +kernel
theorem dX11_read_16 : decode cX11_read 16 = .ok (.iconst 0, 1) := by decide +kernel
theorem dX11_read_17 : decode cX11_read 17 = .ok (.putfield 87, 3) := by decide +kernel
theorem dX11_read_20 : decode cX11_read 20 = .ok (.aload_n 0, 1) := by decide +kernel
theorem dX11_read_21 : decode cX11_read 21 = .ok (.getfield 20, 3) := by decide +kernel
theorem dX11_read_24 : decode cX11_read 24 = .ok (.invokevirtual 101, 3) := by decide +kernel
theorem dX11_read_27 : decode cX11_read 27 = .ok (.aload_n 0, 1) := by decide +kernel
theorem dX11_read_28 : decode cX11_read 28 = .ok (.getfield 20, 3) := by decide +kernel
theorem dX11_read_31 : decode cX11_read 31 = .ok (.invokevirtual 104, 3) := by decide +kernel
theorem dX11_read_34 : decode cX11_read 34 = .ok (.istore_n 1, 1) := by decide +kernel
theorem dX11_read_35 : decode cX11_read 35 = .ok (.iload_n 1, 1) := by decide +kernel
theorem dX11_read_36 : decode cX11_read 36 = .ok (.ifCond .eq 16, 3) := by decide +kernel
theorem dX11_read_39 : decode cX11_read 39 = .ok (.aload_n 0, 1) := by decide +kernel
theorem dX11_read_40 : decode cX11_read 40 = .ok (.aload_n 0, 1) := by decide +kernel
theorem dX11_read_41 : decode cX11_read 41 = .ok (.getfield 20, 3) := by decide +kernel
theorem dX11_read_44 : decode cX11_read 44 = .ok (.getfield 108, 3) := by decide +kernel
theorem dX11_read_47 : decode cX11_read 47 = .ok (.putfield 13, 3) := by decide +kernel
theorem dX11_read_50 : decode cX11_read 50 = .ok (.iload_n 1, 1) := by decide +kernel
theorem dX11_read_51 : decode cX11_read 51 = .ok (.ireturn, 1) := by decide +kernel
theorem dX11_read_52 : decode cX11_read 52 = .ok (.aload_n 0, 1) := by decide +kernel
theorem dX11_read_53 : decode cX11_read 53 = .ok (.iconst (-1), 1) := by decide +kernel
theorem dX11_read_54 : decode cX11_read 54 = .ok (.putfield 13, 3) := by decide +kernel
theorem dX11_read_57 : decode cX11_read 57 = .ok (.aload_n 0, 1) := by decide +kernel
theorem dX11_read_58 : decode cX11_read 58 = .ok (.getfield 20, 3) := by decide +kernel
theorem dX11_read_61 : decode cX11_read 61 = .ok (.getfield 111, 3) := by decide +kernel
theorem dX11_read_64 : decode cX11_read 64 = .ok (.astore_n 2, 1) := by decide +kernel
theorem dX11_read_65 : decode cX11_read 65 = .ok (.aload_n 0, 1) := by decide +kernel
theorem dX11_read_66 : decode cX11_read 66 = .ok (.getfield 20, 3) := by decide +kernel
theorem dX11_read_69 : decode cX11_read 69 = .ok (.aload_n 0, 1) := by decide +kernel
theorem dX11_read_70 : decode cX11_read 70 = .ok (.getfield 27, 3) := by decide +kernel
theorem dX11_read_73 : decode cX11_read 73 = .ok (.putfield 111, 3) := by decide +kernel
theorem dX11_read_76 : decode cX11_read 76 = .ok (.aload_n 0, 1) := by decide +kernel
theorem dX11_read_77 : decode cX11_read 77 = .ok (.aload_n 2, 1) := by decide +kernel
theorem dX11_read_78 : decode cX11_read 78 = .ok (.putfield 27, 3) := by decide +kernel
theorem dX11_read_81 : decode cX11_read 81 = .ok (.aload_n 0, 1) := by decide +kernel
theorem dX11_read_82 : decode cX11_read 82 = .ok (.getfield 34, 3) := by decide +kernel
theorem dX11_read_85 : decode cX11_read 85 = .ok (.aload_n 0, 1) := by decide +kernel
theorem dX11_read_86 : decode cX11_read 86 = .ok (.getfield 27, 3) := by decide +kernel
theorem dX11_read_89 : decode cX11_read 89 = .ok (.invokevirtual 83, 3) := by decide +kernel
theorem dX11_read_92 : decode cX11_read 92 = .ok (.aload_n 0, 1) := by decide +kernel
theorem dX11_read_93 : decode cX11_read 93 = .ok (.getfield 44, 3) := by decide +kernel
theorem dX11_read_96 : decode cX11_read 96 = .ok (.invokevirtual 112, 3) := by decide +kernel
theorem dX11_read_99 : decode cX11_read 99 = .ok (.aload_n 0, 1) := by decide +kernel
theorem dX11_read_100 : decode cX11_read 100 = .ok (.getfield 79, 3) := by decide +kernel
theorem dX11_read_103 : decode cX11_read 103 = .ok (.iconst 0, 1) := by decide +kernel
theorem dX11_read_104 : decode cX11_read 104 = .ok (.putfield 115, 3) := by decide +kernel
theorem dX11_read_107 : decode cX11_read 107 = .ok (.iconst 0, 1) := by decide +kernel
theorem dX11_read_108 : decode cX11_read 108 = .ok (.ireturn, 1) := by decide +kernel
theorem dX11_place_0 : decode cX11_place 0 = .ok (.aload_n 0, 1) := by decide +kernel
theorem dX11_place_1 : decode cX11_place 1 = .ok (.getfield 13, 3) := by decide +kernel
theorem dX11_place_4 : decode cX11_place 4 = .ok (.ireturn, 1) := by decide +kernel
theorem dX11_man_0 : decode cX11_man 0 = .ok (.aload_n 0, 1) := by decide +kernel
theorem dX11_man_1 : decode cX11_man 1 = .ok (.iload_n 1, 1) := by decide +kernel
theorem dX11_man_2 : decode cX11_man 2 = .ok (.invokevirtual 118, 3) := by decide +kernel
theorem dX11_man_5 : decode cX11_man 5 = .ok (.ifCond .ne 5, 3) := by decide +kernel
theorem dX11_man_8 : decode cX11_man 8 = .ok (.iconst (-1), 1) := by decide +kernel
theorem dX11_man_9 : decode cX11_man 9 = .ok (.ireturn, 1) := by decide +kernel
theorem dX11_man_10 : decode cX11_man 10 = .ok (.iload_n 2, 1) := by decide +kernel
theorem dX11_man_11 : decode cX11_man 11 = .ok (.tableswitch 186 0 7 #[45, 57, 69, 81, 94, 106, 154, 174], 45) := by decide +kernel
theorem dX11_man_56 : decode cX11_man 56 = .ok (.aload_n 0, 1) := by decide +kernel
theorem dX11_man_57 : decode cX11_man 57 = .ok (.getfield 34, 3) := by decide +kernel
theorem dX11_man_60 : decode cX11_man 60 = .ok (.getfield 122, 3) := by decide +kernel
theorem dX11_man_63 : decode cX11_man 63 = .ok (.iload_n 1, 1) := by decide +kernel
theorem dX11_man_64 : decode cX11_man 64 = .ok (.invokestatic 125, 3) := by decide +kernel
theorem dX11_man_67 : decode cX11_man 67 = .ok (.ireturn, 1) := by decide +kernel
theorem dX11_man_68 : decode cX11_man 68 = .ok (.aload_n 0, 1) := by decide +kernel
theorem dX11_man_69 : decode cX11_man 69 = .ok (.getfield 34, 3) := by decide +kernel
theorem dX11_man_72 : decode cX11_man 72 = .ok (.getfield 129, 3) := by decide +kernel
theorem dX11_man_75 : decode cX11_man 75 = .ok (.iload_n 1, 1) := by decide +kernel
theorem dX11_man_76 : decode cX11_man 76 = .ok (.invokestatic 125, 3) := by decide +kernel
theorem dX11_man_79 : decode cX11_man 79 = .ok (.ireturn, 1) := by decide +kernel
theorem dX11_man_80 : decode cX11_man 80 = .ok (.aload_n 0, 1) := by decide +kernel
theorem dX11_man_81 : decode cX11_man 81 = .ok (.getfield 34, 3) := by decide +kernel
theorem dX11_man_84 : decode cX11_man 84 = .ok (.getfield 132, 3) := by decide +kernel
theorem dX11_man_87 : decode cX11_man 87 = .ok (.iload_n 1, 1) := by decide +kernel
theorem dX11_man_88 : decode cX11_man 88 = .ok (.invokestatic 125, 3) := by decide +kernel
theorem dX11_man_91 : decode cX11_man 91 = .ok (.ireturn, 1) := by decide +kernel
theorem dX11_man_92 : decode cX11_man 92 = .ok (.aload_n 0, 1) := by decide +kernel
theorem dX11_man_93 : decode cX11_man 93 = .ok (.getfield 34, 3) := by decide +kernel
theorem dX11_man_96 : decode cX11_man 96 = .ok (.aload_n 0, 1) := by decide +kernel
theorem dX11_man_97 : decode cX11_man 97 = .ok (.getfield 27, 3) := by decide +kernel
theorem dX11_man_100 : decode cX11_man 100 = .ok (.iload_n 1, 1) := by decide +kernel
theorem dX11_man_101 : decode cX11_man 101 = .ok (.invokevirtual 135, 3) := by decide +kernel
theorem dX11_man_104 : decode cX11_man 104 = .ok (.ireturn, 1) := by decide +kernel
theorem dX11_man_105 : decode cX11_man 105 = .ok (.aload_n 0, 1) := by decide +kernel
theorem dX11_man_106 : decode cX11_man 106 = .ok (.getfield 34, 3) := by decide +kernel
theorem dX11_man_109 : decode cX11_man 109 = .ok (.getfield 139, 3) := by decide +kernel
theorem dX11_man_112 : decode cX11_man 112 = .ok (.iload_n 1, 1) := by decide +kernel
theorem dX11_man_113 : decode cX11_man 113 = .ok (.invokestatic 125, 3) := by decide +kernel
theorem dX11_man_116 : decode cX11_man 116 = .ok (.ireturn, 1) := by decide +kernel
theorem dX11_man_117 : decode cX11_man 117 = .ok (.aload_n 0, 1) := by decide +kernel
theorem dX11_man_118 : decode cX11_man 118 = .ok (.getfield 34, 3) := by decide +kernel
theorem dX11_man_121 : decode cX11_man 121 = .ok (.getfield 122, 3) := by decide +kernel
theorem dX11_man_124 : decode cX11_man 124 = .ok (.iload_n 1, 1) := by decide +kernel
theorem dX11_man_125 : decode cX11_man 125 = .ok (.invokestatic 125, 3) := by decide +kernel
theorem dX11_man_128 : decode cX11_man 128 = .ok (.aload_n 0, 1) := by decide +kernel
theorem dX11_man_129 : decode cX11_man 129 = .ok (.getfield 34, 3) := by decide +kernel
theorem dX11_man_132 : decode cX11_man 132 = .ok (.getfield 129, 3) := by decide +kernel
theorem dX11_man_135 : decode cX11_man 135 = .ok (.iload_n 1, 1) := by decide +kernel
theorem dX11_man_136 : decode cX11_man 136 = .ok (.invokestatic 125, 3) := by decide +kernel
theorem dX11_man_139 : decode cX11_man 139 = .ok (.aload_n 0, 1) := by decide +kernel
theorem dX11_man_140 : decode cX11_man 140 = .ok (.getfield 27, 3) := by decide +kernel
theorem dX11_man_143 : decode cX11_man 143 = .ok (.getfield 142, 3) := by decide +kernel
theorem dX11_man_146 : decode cX11_man 146 = .ok (.iload_n 1, 1) := by decide +kernel
theorem dX11_man_147 : decode cX11_man 147 = .ok (.invokestatic 125, 3) := by decide +kernel
theorem dX11_man_150 : decode cX11_man 150 = .ok (.aload_n 0, 1) := by decide +kernel
theorem dX11_man_151 : decode cX11_man 151 = .ok (.getfield 27, 3) := by decide +kernel
theorem dX11_man_154 : decode cX11_man 154 = .ok (.getfield 145, 3) := by decide +kernel
theorem dX11_man_157 : decode cX11_man 157 = .ok (.iload_n 1, 1) := by decide +kernel
theorem dX11_man_158 : decode cX11_man 158 = .ok (.invokestatic 125, 3) := by decide +kernel
theorem dX11_man_161 : decode cX11_man 161 = .ok (.invokestatic 148, 3) := by decide +kernel
theorem dX11_man_164 : decode cX11_man 164 = .ok (.ireturn, 1) := by decide +kernel
theorem dX11_man_165 : decode cX11_man 165 = .ok (.aload_n 0, 1) := by decide +kernel
theorem dX11_man_166 : decode cX11_man 166 = .ok (.getfield 34, 3) := by decide +kernel
theorem dX11_man_169 : decode cX11_man 169 = .ok (.aload_n 0, 1) := by decide +kernel
theorem dX11_man_170 : decode cX11_man 170 = .ok (.getfield 27, 3) := by decide +kernel
theorem dX11_man_173 : decode cX11_man 173 = .ok (.iload_n 1, 1) := by decide +kernel
theorem dX11_man_174 : decode cX11_man 174 = .ok (.aload_n 0, 1) := by decide +kernel
theorem dX11_man_175 : decode cX11_man 175 = .ok (.getfield 34, 3) := by decide +kernel
theorem dX11_man_178 : decode cX11_man 178 = .ok (.getfield 152, 3) := by decide +kernel
theorem dX11_man_181 : decode cX11_man 181 = .ok (.invokevirtual 155, 3) := by decide +kernel
theorem dX11_man_184 : decode cX11_man 184 = .ok (.ireturn, 1) := by decide +kernel
theorem dX11_man_185 : decode cX11_man 185 = .ok (.aload_n 0, 1) := by decide +kernel
theorem dX11_man_186 : decode cX11_man 186 = .ok (.getfield 27, 3) := by decide +kernel
theorem dX11_man_189 : decode cX11_man 189 = .ok (.getfield 159, 3) := by decide +kernel
theorem dX11_man_192 : decode cX11_man 192 = .ok (.iload_n 1, 1) := by decide +kernel
theorem dX11_man_193 : decode cX11_man 193 = .ok (.invokestatic 125, 3) := by decide +kernel
theorem dX11_man_196 : decode cX11_man 196 = .ok (.ireturn, 1) := by decide +kernel
theorem dX11_man_197 : decode cX11_man 197 = .ok (.iconst (-1), 1) := by decide +kernel
theorem dX11_man_198 : decode cX11_man 198 = .ok (.ireturn, 1) := by decide +kernel
theorem dX11_piece_0 : decode cX11_piece 0 = .ok (.aload_n 0, 1) := by decide +kernel
theorem dX11_piece_1 : decode cX11_piece 1 = .ok (.iload_n 1, 1) := by decide +kernel
theorem dX11_piece_2 : decode cX11_piece 2 = .ok (.invokevirtual 118, 3) := by decide +kernel
theorem dX11_piece_5 : decode cX11_piece 5 = .ok (.ifCond .eq 22, 3) := by decide +kernel
theorem dX11_piece_8 : decode cX11_piece 8 = .ok (.iload_n 2, 1) := by decide +kernel
theorem dX11_piece_9 : decode cX11_piece 9 = .ok (.ifCond .lt 18, 3) := by decide +kernel
theorem dX11_piece_12 : decode cX11_piece 12 = .ok (.iload_n 2, 1) := by decide +kernel
theorem dX11_piece_13 : decode cX11_piece 13 = .ok (.aload_n 0, 1) := by decide +kernel
theorem dX11_piece_14 : decode cX11_piece 14 = .ok (.getfield 34, 3) := by decide +kernel
theorem dX11_piece_17 : decode cX11_piece 17 = .ok (.getfield 132, 3) := by decide +kernel
theorem dX11_piece_20 : decode cX11_piece 20 = .ok (.iload_n 1, 1) := by decide +kernel
theorem dX11_piece_21 : decode cX11_piece 21 = .ok (.invokestatic 125, 3) := by decide +kernel
theorem dX11_piece_24 : decode cX11_piece 24 = .ok (.if_icmp .lt 5, 3) := by decide +kernel
theorem dX11_piece_27 : decode cX11_piece 27 = .ok (.iconst (-1), 1) := by decide +kernel
theorem dX11_piece_28 : decode cX11_piece 28 = .ok (.ireturn, 1) := by decide +kernel
theorem dX11_piece_29 : decode cX11_piece 29 = .ok (.iload_n 1, 1) := by decide +kernel
theorem dX11_piece_30 : decode cX11_piece 30 = .ok (.iload_n 2, 1) := by decide +kernel
theorem dX11_piece_31 : decode cX11_piece 31 = .ok (.invokestatic 162, 3) := by decide +kernel
theorem dX11_piece_34 : decode cX11_piece 34 = .ok (.istore 4, 2) := by decide +kernel
theorem dX11_piece_36 : decode cX11_piece 36 = .ok (.iload_n 3, 1) := by decide +kernel
theorem dX11_piece_37 : decode cX11_piece 37 = .ok (.tableswitch 82 0 2 #[27, 40, 50], 27) := by decide +kernel
theorem dX11_piece_64 : decode cX11_piece 64 = .ok (.aload_n 0, 1) := by decide +kernel
theorem dX11_piece_65 : decode cX11_piece 65 = .ok (.getfield 34, 3) := by decide +kernel
theorem dX11_piece_68 : decode cX11_piece 68 = .ok (.getfield 166, 3) := by decide +kernel
theorem dX11_piece_71 : decode cX11_piece 71 = .ok (.iload 4, 2) := by decide +kernel
theorem dX11_piece_73 : decode cX11_piece 73 = .ok (.invokestatic 125, 3) := by decide +kernel
theorem dX11_piece_76 : decode cX11_piece 76 = .ok (.ireturn, 1) := by decide +kernel
theorem dX11_piece_77 : decode cX11_piece 77 = .ok (.aload_n 0, 1) := by decide +kernel
theorem dX11_piece_78 : decode cX11_piece 78 = .ok (.getfield 34, 3) := by decide +kernel
theorem dX11_piece_81 : decode cX11_piece 81 = .ok (.iload 4, 2) := by decide +kernel
theorem dX11_piece_83 : decode cX11_piece 83 = .ok (.invokevirtual 168, 3) := by decide +kernel
theorem dX11_piece_86 : decode cX11_piece 86 = .ok (.ireturn, 1) := by decide +kernel
theorem dX11_piece_87 : decode cX11_piece 87 = .ok (.aload_n 0, 1) := by decide +kernel
theorem dX11_piece_88 : decode cX11_piece 88 = .ok (.getfield 34, 3) := by decide +kernel
theorem dX11_piece_91 : decode cX11_piece 91 = .ok (.aload_n 0, 1) := by decide +kernel
theorem dX11_piece_92 : decode cX11_piece 92 = .ok (.getfield 34, 3) := by decide +kernel
theorem dX11_piece_95 : decode cX11_piece 95 = .ok (.getfield 172, 3) := by decide +kernel
theorem dX11_piece_98 : decode cX11_piece 98 = .ok (.iload 4, 2) := by decide +kernel
theorem dX11_piece_100 : decode cX11_piece 100 = .ok (.invokestatic 125, 3) := by decide +kernel
theorem dX11_piece_103 : decode cX11_piece 103 = .ok (.invokevirtual 175, 3) := by decide +kernel
theorem dX11_piece_106 : decode cX11_piece 106 = .ok (.aload_n 0, 1) := by decide +kernel
theorem dX11_piece_107 : decode cX11_piece 107 = .ok (.getfield 34, 3) := by decide +kernel
theorem dX11_piece_110 : decode cX11_piece 110 = .ok (.iload 4, 2) := by decide +kernel
theorem dX11_piece_112 : decode cX11_piece 112 = .ok (.invokevirtual 168, 3) := by decide +kernel
theorem dX11_piece_115 : decode cX11_piece 115 = .ok (.isub, 1) := by decide +kernel
theorem dX11_piece_116 : decode cX11_piece 116 = .ok (.iconst 1, 1) := by decide +kernel
theorem dX11_piece_117 : decode cX11_piece 117 = .ok (.isub, 1) := by decide +kernel
theorem dX11_piece_118 : decode cX11_piece 118 = .ok (.ireturn, 1) := by decide +kernel
theorem dX11_piece_119 : decode cX11_piece 119 = .ok (.iconst (-1), 1) := by decide +kernel
theorem dX11_piece_120 : decode cX11_piece 120 = .ok (.ireturn, 1) := by decide +kernel
theorem dX11_step_0 : decode cX11_step 0 = .ok (.aload_n 0, 1) := by decide +kernel
theorem dX11_step_1 : decode cX11_step 1 = .ok (.iload_n 1, 1) := by decide +kernel
theorem dX11_step_2 : decode cX11_step 2 = .ok (.invokevirtual 118, 3) := by decide +kernel
theorem dX11_step_5 : decode cX11_step 5 = .ok (.ifCond .eq 19, 3) := by decide +kernel
theorem dX11_step_8 : decode cX11_step 8 = .ok (.aload_n 0, 1) := by decide +kernel
theorem dX11_step_9 : decode cX11_step 9 = .ok (.getfield 34, 3) := by decide +kernel
theorem dX11_step_12 : decode cX11_step 12 = .ok (.aload_n 0, 1) := by decide +kernel
theorem dX11_step_13 : decode cX11_step 13 = .ok (.getfield 27, 3) := by decide +kernel
theorem dX11_step_16 : decode cX11_step 16 = .ok (.iload_n 1, 1) := by decide +kernel
theorem dX11_step_17 : decode cX11_step 17 = .ok (.iload_n 2, 1) := by decide +kernel
theorem dX11_step_18 : decode cX11_step 18 = .ok (.invokevirtual 178, 3) := by decide +kernel
theorem dX11_step_21 : decode cX11_step 21 = .ok (.ifCond .ne 5, 3) := by decide +kernel
theorem dX11_step_24 : decode cX11_step 24 = .ok (.iconst 0, 1) := by decide +kernel
theorem dX11_step_25 : decode cX11_step 25 = .ok (.ireturn, 1) := by decide +kernel
theorem dX11_step_26 : decode cX11_step 26 = .ok (.aload_n 0, 1) := by decide +kernel
theorem dX11_step_27 : decode cX11_step 27 = .ok (.getfield 44, 3) := by decide +kernel
theorem dX11_step_30 : decode cX11_step 30 = .ok (.aload_n 0, 1) := by decide +kernel
theorem dX11_step_31 : decode cX11_step 31 = .ok (.getfield 34, 3) := by decide +kernel
theorem dX11_step_34 : decode cX11_step 34 = .ok (.invokevirtual 182, 3) := by decide +kernel
theorem dX11_step_37 : decode cX11_step 37 = .ok (.aload_n 0, 1) := by decide +kernel
theorem dX11_step_38 : decode cX11_step 38 = .ok (.getfield 34, 3) := by decide +kernel
theorem dX11_step_41 : decode cX11_step 41 = .ok (.aload_n 0, 1) := by decide +kernel
theorem dX11_step_42 : decode cX11_step 42 = .ok (.getfield 27, 3) := by decide +kernel
theorem dX11_step_45 : decode cX11_step 45 = .ok (.iload_n 1, 1) := by decide +kernel
theorem dX11_step_46 : decode cX11_step 46 = .ok (.iload_n 2, 1) := by decide +kernel
theorem dX11_step_47 : decode cX11_step 47 = .ok (.invokevirtual 186, 3) := by decide +kernel
theorem dX11_step_50 : decode cX11_step 50 = .ok (.iconst 1, 1) := by decide +kernel
theorem dX11_step_51 : decode cX11_step 51 = .ok (.ireturn, 1) := by decide +kernel
theorem dX11_wind_0 : decode cX11_wind 0 = .ok (.aload_n 0, 1) := by decide +kernel
theorem dX11_wind_1 : decode cX11_wind 1 = .ok (.iload_n 1, 1) := by decide +kernel
theorem dX11_wind_2 : decode cX11_wind 2 = .ok (.invokevirtual 118, 3) := by decide +kernel
theorem dX11_wind_5 : decode cX11_wind 5 = .ok (.ifCond .eq 14, 3) := by decide +kernel
theorem dX11_wind_8 : decode cX11_wind 8 = .ok (.aload_n 0, 1) := by decide +kernel
theorem dX11_wind_9 : decode cX11_wind 9 = .ok (.getfield 34, 3) := by decide +kernel
theorem dX11_wind_12 : decode cX11_wind 12 = .ok (.iload_n 1, 1) := by decide +kernel
theorem dX11_wind_13 : decode cX11_wind 13 = .ok (.invokevirtual 190, 3) := by decide +kernel
theorem dX11_wind_16 : decode cX11_wind 16 = .ok (.ifCond .ne 5, 3) := by decide +kernel
theorem dX11_wind_19 : decode cX11_wind 19 = .ok (.iconst 0, 1) := by decide +kernel
theorem dX11_wind_20 : decode cX11_wind 20 = .ok (.ireturn, 1) := by decide +kernel
theorem dX11_wind_21 : decode cX11_wind 21 = .ok (.aload_n 0, 1) := by decide +kernel
theorem dX11_wind_22 : decode cX11_wind 22 = .ok (.getfield 44, 3) := by decide +kernel
theorem dX11_wind_25 : decode cX11_wind 25 = .ok (.aload_n 0, 1) := by decide +kernel
theorem dX11_wind_26 : decode cX11_wind 26 = .ok (.getfield 34, 3) := by decide +kernel
theorem dX11_wind_29 : decode cX11_wind 29 = .ok (.invokevirtual 182, 3) := by decide +kernel
theorem dX11_wind_32 : decode cX11_wind 32 = .ok (.aload_n 0, 1) := by decide +kernel
theorem dX11_wind_33 : decode cX11_wind 33 = .ok (.getfield 34, 3) := by decide +kernel
theorem dX11_wind_36 : decode cX11_wind 36 = .ok (.iload_n 1, 1) := by decide +kernel
theorem dX11_wind_37 : decode cX11_wind 37 = .ok (.invokevirtual 193, 3) := by decide +kernel
theorem dX11_wind_40 : decode cX11_wind 40 = .ok (.pop, 1) := by decide +kernel
theorem dX11_wind_41 : decode cX11_wind 41 = .ok (.iconst 1, 1) := by decide +kernel
theorem dX11_wind_42 : decode cX11_wind 42 = .ok (.ireturn, 1) := by decide +kernel
theorem dX11_home_0 : decode cX11_home 0 = .ok (.aload_n 0, 1) := by decide +kernel
theorem dX11_home_1 : decode cX11_home 1 = .ok (.iload_n 1, 1) := by decide +kernel
theorem dX11_home_2 : decode cX11_home 2 = .ok (.invokevirtual 118, 3) := by decide +kernel
theorem dX11_home_5 : decode cX11_home 5 = .ok (.ifCond .eq 14, 3) := by decide +kernel
theorem dX11_home_8 : decode cX11_home 8 = .ok (.aload_n 0, 1) := by decide +kernel
theorem dX11_home_9 : decode cX11_home 9 = .ok (.getfield 34, 3) := by decide +kernel
theorem dX11_home_12 : decode cX11_home 12 = .ok (.iload_n 1, 1) := by decide +kernel
theorem dX11_home_13 : decode cX11_home 13 = .ok (.invokevirtual 190, 3) := by decide +kernel
theorem dX11_home_16 : decode cX11_home 16 = .ok (.ifCond .ne 5, 3) := by decide +kernel
theorem dX11_home_19 : decode cX11_home 19 = .ok (.iconst (-1), 1) := by decide +kernel
theorem dX11_home_20 : decode cX11_home 20 = .ok (.ireturn, 1) := by decide +kernel
theorem dX11_home_21 : decode cX11_home 21 = .ok (.aload_n 0, 1) := by decide +kernel
theorem dX11_home_22 : decode cX11_home 22 = .ok (.getfield 44, 3) := by decide +kernel
theorem dX11_home_25 : decode cX11_home 25 = .ok (.aload_n 0, 1) := by decide +kernel
theorem dX11_home_26 : decode cX11_home 26 = .ok (.getfield 34, 3) := by decide +kernel
theorem dX11_home_29 : decode cX11_home 29 = .ok (.invokevirtual 182, 3) := by decide +kernel
theorem dX11_home_32 : decode cX11_home 32 = .ok (.aload_n 0, 1) := by decide +kernel
theorem dX11_home_33 : decode cX11_home 33 = .ok (.getfield 34, 3) := by decide +kernel
theorem dX11_home_36 : decode cX11_home 36 = .ok (.iload_n 1, 1) := by decide +kernel
theorem dX11_home_37 : decode cX11_home 37 = .ok (.invokevirtual 196, 3) := by decide +kernel
theorem dX11_home_40 : decode cX11_home 40 = .ok (.ireturn, 1) := by decide +kernel
theorem dX11_cut_0 : decode cX11_cut 0 = .ok (.aload_n 0, 1) := by decide +kernel
theorem dX11_cut_1 : decode cX11_cut 1 = .ok (.iload_n 1, 1) := by decide +kernel
theorem dX11_cut_2 : decode cX11_cut 2 = .ok (.invokevirtual 118, 3) := by decide +kernel
theorem dX11_cut_5 : decode cX11_cut 5 = .ok (.ifCond .eq 17, 3) := by decide +kernel
theorem dX11_cut_8 : decode cX11_cut 8 = .ok (.aload_n 0, 1) := by decide +kernel
theorem dX11_cut_9 : decode cX11_cut 9 = .ok (.getfield 34, 3) := by decide +kernel
theorem dX11_cut_12 : decode cX11_cut 12 = .ok (.getfield 139, 3) := by decide +kernel
theorem dX11_cut_15 : decode cX11_cut 15 = .ok (.iload_n 1, 1) := by decide +kernel
theorem dX11_cut_16 : decode cX11_cut 16 = .ok (.invokestatic 125, 3) := by decide +kernel
theorem dX11_cut_19 : decode cX11_cut 19 = .ok (.ifCond .eq 5, 3) := by decide +kernel
theorem dX11_cut_22 : decode cX11_cut 22 = .ok (.iconst (-1), 1) := by decide +kernel
theorem dX11_cut_23 : decode cX11_cut 23 = .ok (.ireturn, 1) := by decide +kernel
theorem dX11_cut_24 : decode cX11_cut 24 = .ok (.aload_n 0, 1) := by decide +kernel
theorem dX11_cut_25 : decode cX11_cut 25 = .ok (.getfield 44, 3) := by decide +kernel
theorem dX11_cut_28 : decode cX11_cut 28 = .ok (.aload_n 0, 1) := by decide +kernel
theorem dX11_cut_29 : decode cX11_cut 29 = .ok (.getfield 34, 3) := by decide +kernel
theorem dX11_cut_32 : decode cX11_cut 32 = .ok (.invokevirtual 182, 3) := by decide +kernel
theorem dX11_cut_35 : decode cX11_cut 35 = .ok (.aload_n 0, 1) := by decide +kernel
theorem dX11_cut_36 : decode cX11_cut 36 = .ok (.getfield 34, 3) := by decide +kernel
theorem dX11_cut_39 : decode cX11_cut 39 = .ok (.iload_n 1, 1) := by decide +kernel
theorem dX11_cut_40 : decode cX11_cut 40 = .ok (.invokevirtual 199, 3) := by decide +kernel
theorem dX11_cut_43 : decode cX11_cut 43 = .ok (.ireturn, 1) := by decide +kernel
theorem dX11_run_0 : decode cX11_run 0 = .ok (.iload_n 1, 1) := by decide +kernel
theorem dX11_run_1 : decode cX11_run 1 = .ok (.ifCond .lt 10, 3) := by decide +kernel
theorem dX11_run_4 : decode cX11_run 4 = .ok (.iload_n 1, 1) := by decide +kernel
theorem dX11_run_5 : decode cX11_run 5 = .ok (.sipush 200, 3) := by decide +kernel
theorem dX11_run_8 : decode cX11_run 8 = .ok (.if_icmp .le 5, 3) := by decide +kernel
theorem dX11_run_11 : decode cX11_run 11 = .ok (.iconst (-1), 1) := by decide +kernel
theorem dX11_run_12 : decode cX11_run 12 = .ok (.ireturn, 1) := by decide +kernel
theorem dX11_run_13 : decode cX11_run 13 = .ok (.iload_n 1, 1) := by decide +kernel
theorem dX11_run_14 : decode cX11_run 14 = .ok (.ifCond .le 14, 3) := by decide +kernel
theorem dX11_run_17 : decode cX11_run 17 = .ok (.aload_n 0, 1) := by decide +kernel
theorem dX11_run_18 : decode cX11_run 18 = .ok (.getfield 44, 3) := by decide +kernel
theorem dX11_run_21 : decode cX11_run 21 = .ok (.aload_n 0, 1) := by decide +kernel
theorem dX11_run_22 : decode cX11_run 22 = .ok (.getfield 34, 3) := by decide +kernel
theorem dX11_run_25 : decode cX11_run 25 = .ok (.invokevirtual 182, 3) := by decide +kernel
theorem dX11_run_28 : decode cX11_run 28 = .ok (.iconst 0, 1) := by decide +kernel
theorem dX11_run_29 : decode cX11_run 29 = .ok (.istore_n 2, 1) := by decide +kernel
theorem dX11_run_30 : decode cX11_run 30 = .ok (.iload_n 2, 1) := by decide +kernel
theorem dX11_run_31 : decode cX11_run 31 = .ok (.iload_n 1, 1) := by decide +kernel
theorem dX11_run_32 : decode cX11_run 32 = .ok (.if_icmp .ge 20, 3) := by decide +kernel
theorem dX11_run_35 : decode cX11_run 35 = .ok (.aload_n 0, 1) := by decide +kernel
theorem dX11_run_36 : decode cX11_run 36 = .ok (.getfield 34, 3) := by decide +kernel
theorem dX11_run_39 : decode cX11_run 39 = .ok (.aload_n 0, 1) := by decide +kernel
theorem dX11_run_40 : decode cX11_run 40 = .ok (.getfield 27, 3) := by decide +kernel
theorem dX11_run_43 : decode cX11_run 43 = .ok (.invokevirtual 202, 3) := by decide +kernel
theorem dX11_run_46 : decode cX11_run 46 = .ok (.iinc 2 1, 3) := by decide +kernel
theorem dX11_run_49 : decode cX11_run 49 = .ok (.goto (-19), 3) := by decide +kernel
theorem dX11_run_52 : decode cX11_run 52 = .ok (.aload_n 0, 1) := by decide +kernel
theorem dX11_run_53 : decode cX11_run 53 = .ok (.getfield 34, 3) := by decide +kernel
theorem dX11_run_56 : decode cX11_run 56 = .ok (.getfield 152, 3) := by decide +kernel
theorem dX11_run_59 : decode cX11_run 59 = .ok (.ireturn, 1) := by decide +kernel
theorem dX11_undo_0 : decode cX11_undo 0 = .ok (.aload_n 0, 1) := by decide +kernel
theorem dX11_undo_1 : decode cX11_undo 1 = .ok (.getfield 44, 3) := by decide +kernel
theorem dX11_undo_4 : decode cX11_undo 4 = .ok (.aload_n 0, 1) := by decide +kernel
theorem dX11_undo_5 : decode cX11_undo 5 = .ok (.getfield 34, 3) := by decide +kernel
theorem dX11_undo_8 : decode cX11_undo 8 = .ok (.invokevirtual 205, 3) := by decide +kernel
theorem dX11_undo_11 : decode cX11_undo 11 = .ok (.ireturn, 1) := by decide +kernel
theorem dX11_over_0 : decode cX11_over 0 = .ok (.aload_n 0, 1) := by decide +kernel
theorem dX11_over_1 : decode cX11_over 1 = .ok (.iload_n 1, 1) := by decide +kernel
theorem dX11_over_2 : decode cX11_over 2 = .ok (.iload_n 2, 1) := by decide +kernel
theorem dX11_over_3 : decode cX11_over 3 = .ok (.invokevirtual 209, 3) := by decide +kernel
theorem dX11_over_6 : decode cX11_over 6 = .ok (.ifCond .eq 15, 3) := by decide +kernel
theorem dX11_over_9 : decode cX11_over 9 = .ok (.aload_n 0, 1) := by decide +kernel
theorem dX11_over_10 : decode cX11_over 10 = .ok (.getfield 34, 3) := by decide +kernel
theorem dX11_over_13 : decode cX11_over 13 = .ok (.iload_n 1, 1) := by decide +kernel
theorem dX11_over_14 : decode cX11_over 14 = .ok (.iload_n 2, 1) := by decide +kernel
theorem dX11_over_15 : decode cX11_over 15 = .ok (.invokevirtual 213, 3) := by decide +kernel
theorem dX11_over_18 : decode cX11_over 18 = .ok (.goto 4, 3) := by decide +kernel
theorem dX11_over_21 : decode cX11_over 21 = .ok (.iconst (-1), 1) := by decide +kernel
theorem dX11_over_22 : decode cX11_over 22 = .ok (.ireturn, 1) := by decide +kernel
theorem dX11_waits_0 : decode cX11_waits 0 = .ok (.aload_n 0, 1) := by decide +kernel
theorem dX11_waits_1 : decode cX11_waits 1 = .ok (.iload_n 1, 1) := by decide +kernel
theorem dX11_waits_2 : decode cX11_waits 2 = .ok (.invokevirtual 118, 3) := by decide +kernel
theorem dX11_waits_5 : decode cX11_waits 5 = .ok (.ifCond .ne 5, 3) := by decide +kernel
theorem dX11_waits_8 : decode cX11_waits 8 = .ok (.iconst (-1), 1) := by decide +kernel
theorem dX11_waits_9 : decode cX11_waits 9 = .ok (.ireturn, 1) := by decide +kernel
theorem dX11_waits_10 : decode cX11_waits 10 = .ok (.aload_n 0, 1) := by decide +kernel
theorem dX11_waits_11 : decode cX11_waits 11 = .ok (.getfield 51, 3) := by decide +kernel
theorem dX11_waits_14 : decode cX11_waits 14 = .ok (.aload_n 0, 1) := by decide +kernel
theorem dX11_waits_15 : decode cX11_waits 15 = .ok (.getfield 27, 3) := by decide +kernel
theorem dX11_waits_18 : decode cX11_waits 18 = .ok (.aload_n 0, 1) := by decide +kernel
theorem dX11_waits_19 : decode cX11_waits 19 = .ok (.getfield 34, 3) := by decide +kernel
theorem dX11_waits_22 : decode cX11_waits 22 = .ok (.invokevirtual 216, 3) := by decide +kernel
theorem dX11_waits_25 : decode cX11_waits 25 = .ok (.aload_n 0, 1) := by decide +kernel
theorem dX11_waits_26 : decode cX11_waits 26 = .ok (.getfield 51, 3) := by decide +kernel
theorem dX11_waits_29 : decode cX11_waits 29 = .ok (.getfield 220, 3) := by decide +kernel
theorem dX11_waits_32 : decode cX11_waits 32 = .ok (.iload_n 1, 1) := by decide +kernel
theorem dX11_waits_33 : decode cX11_waits 33 = .ok (.invokestatic 125, 3) := by decide +kernel
theorem dX11_waits_36 : decode cX11_waits 36 = .ok (.ireturn, 1) := by decide +kernel
theorem dX11_orders_0 : decode cX11_orders 0 = .ok (.aload_n 0, 1) := by decide +kernel
theorem dX11_orders_1 : decode cX11_orders 1 = .ok (.getfield 51, 3) := by decide +kernel
theorem dX11_orders_4 : decode cX11_orders 4 = .ok (.aload_n 0, 1) := by decide +kernel
theorem dX11_orders_5 : decode cX11_orders 5 = .ok (.getfield 27, 3) := by decide +kernel
theorem dX11_orders_8 : decode cX11_orders 8 = .ok (.aload_n 0, 1) := by decide +kernel
theorem dX11_orders_9 : decode cX11_orders 9 = .ok (.getfield 34, 3) := by decide +kernel
theorem dX11_orders_12 : decode cX11_orders 12 = .ok (.invokevirtual 216, 3) := by decide +kernel
theorem dX11_orders_15 : decode cX11_orders 15 = .ok (.aload_n 0, 1) := by decide +kernel
theorem dX11_orders_16 : decode cX11_orders 16 = .ok (.getfield 51, 3) := by decide +kernel
theorem dX11_orders_19 : decode cX11_orders 19 = .ok (.invokevirtual 223, 3) := by decide +kernel
theorem dX11_orders_22 : decode cX11_orders 22 = .ok (.ireturn, 1) := by decide +kernel
theorem dX11_orderAt_0 : decode cX11_orderAt 0 = .ok (.iload_n 1, 1) := by decide +kernel
theorem dX11_orderAt_1 : decode cX11_orderAt 1 = .ok (.ifCond .ge 5, 3) := by decide +kernel
theorem dX11_orderAt_4 : decode cX11_orderAt 4 = .ok (.iconst (-1), 1) := by decide +kernel
theorem dX11_orderAt_5 : decode cX11_orderAt 5 = .ok (.ireturn, 1) := by decide +kernel
theorem dX11_orderAt_6 : decode cX11_orderAt 6 = .ok (.aload_n 0, 1) := by decide +kernel
theorem dX11_orderAt_7 : decode cX11_orderAt 7 = .ok (.getfield 51, 3) := by decide +kernel
theorem dX11_orderAt_10 : decode cX11_orderAt 10 = .ok (.aload_n 0, 1) := by decide +kernel
theorem dX11_orderAt_11 : decode cX11_orderAt 11 = .ok (.getfield 27, 3) := by decide +kernel
theorem dX11_orderAt_14 : decode cX11_orderAt 14 = .ok (.aload_n 0, 1) := by decide +kernel
theorem dX11_orderAt_15 : decode cX11_orderAt 15 = .ok (.getfield 34, 3) := by decide +kernel
theorem dX11_orderAt_18 : decode cX11_orderAt 18 = .ok (.invokevirtual 216, 3) := by decide +kernel
theorem dX11_orderAt_21 : decode cX11_orderAt 21 = .ok (.aload_n 0, 1) := by decide +kernel
theorem dX11_orderAt_22 : decode cX11_orderAt 22 = .ok (.getfield 51, 3) := by decide +kernel
theorem dX11_orderAt_25 : decode cX11_orderAt 25 = .ok (.iconst 0, 1) := by decide +kernel
theorem dX11_orderAt_26 : decode cX11_orderAt 26 = .ok (.invokevirtual 226, 3) := by decide +kernel
theorem dX11_orderAt_29 : decode cX11_orderAt 29 = .ok (.ifCond .ne 6, 3) := by decide +kernel
theorem dX11_orderAt_32 : decode cX11_orderAt 32 = .ok (.bipush (-2), 2) := by decide +kernel
theorem dX11_orderAt_34 : decode cX11_orderAt 34 = .ok (.ireturn, 1) := by decide +kernel
theorem dX11_orderAt_35 : decode cX11_orderAt 35 = .ok (.iload_n 1, 1) := by decide +kernel
theorem dX11_orderAt_36 : decode cX11_orderAt 36 = .ok (.aload_n 0, 1) := by decide +kernel
theorem dX11_orderAt_37 : decode cX11_orderAt 37 = .ok (.getfield 51, 3) := by decide +kernel
theorem dX11_orderAt_40 : decode cX11_orderAt 40 = .ok (.getfield 229, 3) := by decide +kernel
theorem dX11_orderAt_43 : decode cX11_orderAt 43 = .ok (.invokestatic 232, 3) := by decide +kernel
theorem dX11_orderAt_46 : decode cX11_orderAt 46 = .ok (.if_icmp .ge 17, 3) := by decide +kernel
theorem dX11_orderAt_49 : decode cX11_orderAt 49 = .ok (.aload_n 0, 1) := by decide +kernel
theorem dX11_orderAt_50 : decode cX11_orderAt 50 = .ok (.getfield 51, 3) := by decide +kernel
theorem dX11_orderAt_53 : decode cX11_orderAt 53 = .ok (.getfield 237, 3) := by decide +kernel
theorem dX11_orderAt_56 : decode cX11_orderAt 56 = .ok (.iload_n 1, 1) := by decide +kernel
theorem dX11_orderAt_57 : decode cX11_orderAt 57 = .ok (.invokestatic 125, 3) := by decide +kernel
theorem dX11_orderAt_60 : decode cX11_orderAt 60 = .ok (.goto 4, 3) := by decide +kernel
theorem dX11_orderAt_63 : decode cX11_orderAt 63 = .ok (.iconst (-1), 1) := by decide +kernel
theorem dX11_orderAt_64 : decode cX11_orderAt 64 = .ok (.ireturn, 1) := by decide +kernel
theorem dX11_cuts_0 : decode cX11_cuts 0 = .ok (.iload_n 1, 1) := by decide +kernel
theorem dX11_cuts_1 : decode cX11_cuts 1 = .ok (.ifCond .lt 8, 3) := by decide +kernel
theorem dX11_cuts_4 : decode cX11_cuts 4 = .ok (.iload_n 1, 1) := by decide +kernel
theorem dX11_cuts_5 : decode cX11_cuts 5 = .ok (.iconst 2, 1) := by decide +kernel
theorem dX11_cuts_6 : decode cX11_cuts 6 = .ok (.if_icmp .le 5, 3) := by decide +kernel
theorem dX11_cuts_9 : decode cX11_cuts 9 = .ok (.iconst (-1), 1) := by decide +kernel
theorem dX11_cuts_10 : decode cX11_cuts 10 = .ok (.ireturn, 1) := by decide +kernel
theorem dX11_cuts_11 : decode cX11_cuts 11 = .ok (.aload_n 0, 1) := by decide +kernel
theorem dX11_cuts_12 : decode cX11_cuts 12 = .ok (.getfield 51, 3) := by decide +kernel
theorem dX11_cuts_15 : decode cX11_cuts 15 = .ok (.aload_n 0, 1) := by decide +kernel
theorem dX11_cuts_16 : decode cX11_cuts 16 = .ok (.getfield 27, 3) := by decide +kernel
theorem dX11_cuts_19 : decode cX11_cuts 19 = .ok (.aload_n 0, 1) := by decide +kernel
theorem dX11_cuts_20 : decode cX11_cuts 20 = .ok (.getfield 34, 3) := by decide +kernel
theorem dX11_cuts_23 : decode cX11_cuts 23 = .ok (.invokevirtual 216, 3) := by decide +kernel
theorem dX11_cuts_26 : decode cX11_cuts 26 = .ok (.aload_n 0, 1) := by decide +kernel
theorem dX11_cuts_27 : decode cX11_cuts 27 = .ok (.getfield 51, 3) := by decide +kernel
theorem dX11_cuts_30 : decode cX11_cuts 30 = .ok (.aload_n 0, 1) := by decide +kernel
theorem dX11_cuts_31 : decode cX11_cuts 31 = .ok (.getfield 27, 3) := by decide +kernel
theorem dX11_cuts_34 : decode cX11_cuts 34 = .ok (.aload_n 0, 1) := by decide +kernel
theorem dX11_cuts_35 : decode cX11_cuts 35 = .ok (.getfield 34, 3) := by decide +kernel
theorem dX11_cuts_38 : decode cX11_cuts 38 = .ok (.invokevirtual 240, 3) := by decide +kernel
theorem dX11_cuts_41 : decode cX11_cuts 41 = .ok (.istore_n 2, 1) := by decide +kernel
theorem dX11_cuts_42 : decode cX11_cuts 42 = .ok (.iload_n 1, 1) := by decide +kernel
theorem dX11_cuts_43 : decode cX11_cuts 43 = .ok (.iconst 2, 1) := by decide +kernel
theorem dX11_cuts_44 : decode cX11_cuts 44 = .ok (.if_icmp .ne 5, 3) := by decide +kernel
theorem dX11_cuts_47 : decode cX11_cuts 47 = .ok (.iload_n 2, 1) := by decide +kernel
theorem dX11_cuts_48 : decode cX11_cuts 48 = .ok (.ireturn, 1) := by decide +kernel
theorem dX11_cuts_49 : decode cX11_cuts 49 = .ok (.iload_n 1, 1) := by decide +kernel
theorem dX11_cuts_50 : decode cX11_cuts 50 = .ok (.ifCond .ne 10, 3) := by decide +kernel
theorem dX11_cuts_53 : decode cX11_cuts 53 = .ok (.iload_n 2, 1) := by decide +kernel
theorem dX11_cuts_54 : decode cX11_cuts 54 = .ok (.invokestatic 232, 3) := by decide +kernel
theorem dX11_cuts_57 : decode cX11_cuts 57 = .ok (.goto 15, 3) := by decide +kernel
theorem dX11_cuts_60 : decode cX11_cuts 60 = .ok (.aload_n 0, 1) := by decide +kernel
theorem dX11_cuts_61 : decode cX11_cuts 61 = .ok (.getfield 34, 3) := by decide +kernel
theorem dX11_cuts_64 : decode cX11_cuts 64 = .ok (.aload_n 0, 1) := by decide +kernel
theorem dX11_cuts_65 : decode cX11_cuts 65 = .ok (.getfield 27, 3) := by decide +kernel
theorem dX11_cuts_68 : decode cX11_cuts 68 = .ok (.iload_n 2, 1) := by decide +kernel
theorem dX11_cuts_69 : decode cX11_cuts 69 = .ok (.invokevirtual 244, 3) := by decide +kernel
theorem dX11_cuts_72 : decode cX11_cuts 72 = .ok (.ireturn, 1) := by decide +kernel
theorem dX11_way_0 : decode cX11_way 0 = .ok (.aload_n 0, 1) := by decide +kernel
theorem dX11_way_1 : decode cX11_way 1 = .ok (.iload_n 1, 1) := by decide +kernel
theorem dX11_way_2 : decode cX11_way 2 = .ok (.invokevirtual 118, 3) := by decide +kernel
theorem dX11_way_5 : decode cX11_way 5 = .ok (.ifCond .ne 5, 3) := by decide +kernel
theorem dX11_way_8 : decode cX11_way 8 = .ok (.iconst (-1), 1) := by decide +kernel
theorem dX11_way_9 : decode cX11_way 9 = .ok (.ireturn, 1) := by decide +kernel
theorem dX11_way_10 : decode cX11_way 10 = .ok (.aload_n 0, 1) := by decide +kernel
theorem dX11_way_11 : decode cX11_way 11 = .ok (.getfield 58, 3) := by decide +kernel
theorem dX11_way_14 : decode cX11_way 14 = .ok (.aload_n 0, 1) := by decide +kernel
theorem dX11_way_15 : decode cX11_way 15 = .ok (.getfield 27, 3) := by decide +kernel
theorem dX11_way_18 : decode cX11_way 18 = .ok (.iload_n 1, 1) := by decide +kernel
theorem dX11_way_19 : decode cX11_way 19 = .ok (.invokevirtual 247, 3) := by decide +kernel
theorem dX11_way_22 : decode cX11_way 22 = .ok (.aload_n 0, 1) := by decide +kernel
theorem dX11_way_23 : decode cX11_way 23 = .ok (.getfield 58, 3) := by decide +kernel
theorem dX11_way_26 : decode cX11_way 26 = .ok (.aload_n 0, 1) := by decide +kernel
theorem dX11_way_27 : decode cX11_way 27 = .ok (.getfield 27, 3) := by decide +kernel
theorem dX11_way_30 : decode cX11_way 30 = .ok (.iload_n 1, 1) := by decide +kernel
theorem dX11_way_31 : decode cX11_way 31 = .ok (.aload_n 0, 1) := by decide +kernel
theorem dX11_way_32 : decode cX11_way 32 = .ok (.getfield 27, 3) := by decide +kernel
theorem dX11_way_35 : decode cX11_way 35 = .ok (.getfield 142, 3) := by decide +kernel
theorem dX11_way_38 : decode cX11_way 38 = .ok (.iload_n 1, 1) := by decide +kernel
theorem dX11_way_39 : decode cX11_way 39 = .ok (.invokestatic 125, 3) := by decide +kernel
theorem dX11_way_42 : decode cX11_way 42 = .ok (.aload_n 0, 1) := by decide +kernel
theorem dX11_way_43 : decode cX11_way 43 = .ok (.getfield 27, 3) := by decide +kernel
theorem dX11_way_46 : decode cX11_way 46 = .ok (.getfield 145, 3) := by decide +kernel
theorem dX11_way_49 : decode cX11_way 49 = .ok (.iload_n 1, 1) := by decide +kernel
theorem dX11_way_50 : decode cX11_way 50 = .ok (.invokestatic 125, 3) := by decide +kernel
theorem dX11_way_53 : decode cX11_way 53 = .ok (.invokevirtual 251, 3) := by decide +kernel
theorem dX11_way_56 : decode cX11_way 56 = .ok (.ireturn, 1) := by decide +kernel
theorem dX11_wayAt_0 : decode cX11_wayAt 0 = .ok (.aload_n 0, 1) := by decide +kernel
theorem dX11_wayAt_1 : decode cX11_wayAt 1 = .ok (.iload_n 1, 1) := by decide +kernel
theorem dX11_wayAt_2 : decode cX11_wayAt 2 = .ok (.invokevirtual 118, 3) := by decide +kernel
theorem dX11_wayAt_5 : decode cX11_wayAt 5 = .ok (.ifCond .eq 22, 3) := by decide +kernel
theorem dX11_wayAt_8 : decode cX11_wayAt 8 = .ok (.iload_n 2, 1) := by decide +kernel
theorem dX11_wayAt_9 : decode cX11_wayAt 9 = .ok (.ifCond .lt 18, 3) := by decide +kernel
theorem dX11_wayAt_12 : decode cX11_wayAt 12 = .ok (.iload_n 2, 1) := by decide +kernel
theorem dX11_wayAt_13 : decode cX11_wayAt 13 = .ok (.aload_n 0, 1) := by decide +kernel
theorem dX11_wayAt_14 : decode cX11_wayAt 14 = .ok (.getfield 27, 3) := by decide +kernel
theorem dX11_wayAt_17 : decode cX11_wayAt 17 = .ok (.getfield 255, 3) := by decide +kernel
theorem dX11_wayAt_20 : decode cX11_wayAt 20 = .ok (.iload_n 1, 1) := by decide +kernel
theorem dX11_wayAt_21 : decode cX11_wayAt 21 = .ok (.invokestatic 125, 3) := by decide +kernel
theorem dX11_wayAt_24 : decode cX11_wayAt 24 = .ok (.if_icmp .lt 5, 3) := by decide +kernel
theorem dX11_wayAt_27 : decode cX11_wayAt 27 = .ok (.iconst (-1), 1) := by decide +kernel
theorem dX11_wayAt_28 : decode cX11_wayAt 28 = .ok (.ireturn, 1) := by decide +kernel
theorem dX11_wayAt_29 : decode cX11_wayAt 29 = .ok (.aload_n 0, 1) := by decide +kernel
theorem dX11_wayAt_30 : decode cX11_wayAt 30 = .ok (.getfield 58, 3) := by decide +kernel
theorem dX11_wayAt_33 : decode cX11_wayAt 33 = .ok (.aload_n 0, 1) := by decide +kernel
theorem dX11_wayAt_34 : decode cX11_wayAt 34 = .ok (.getfield 27, 3) := by decide +kernel
theorem dX11_wayAt_37 : decode cX11_wayAt 37 = .ok (.iload_n 1, 1) := by decide +kernel
theorem dX11_wayAt_38 : decode cX11_wayAt 38 = .ok (.invokevirtual 247, 3) := by decide +kernel
theorem dX11_wayAt_41 : decode cX11_wayAt 41 = .ok (.aload_n 0, 1) := by decide +kernel
theorem dX11_wayAt_42 : decode cX11_wayAt 42 = .ok (.getfield 58, 3) := by decide +kernel
theorem dX11_wayAt_45 : decode cX11_wayAt 45 = .ok (.aload_n 0, 1) := by decide +kernel
theorem dX11_wayAt_46 : decode cX11_wayAt 46 = .ok (.getfield 27, 3) := by decide +kernel
theorem dX11_wayAt_49 : decode cX11_wayAt 49 = .ok (.iload_n 1, 1) := by decide +kernel
theorem dX11_wayAt_50 : decode cX11_wayAt 50 = .ok (.invokevirtual 258, 3) := by decide +kernel
theorem dX11_wayAt_53 : decode cX11_wayAt 53 = .ok (.aload_n 0, 1) := by decide +kernel
theorem dX11_wayAt_54 : decode cX11_wayAt 54 = .ok (.getfield 58, 3) := by decide +kernel
theorem dX11_wayAt_57 : decode cX11_wayAt 57 = .ok (.getfield 260, 3) := by decide +kernel
theorem dX11_wayAt_60 : decode cX11_wayAt 60 = .ok (.iload_n 2, 1) := by decide +kernel
theorem dX11_wayAt_61 : decode cX11_wayAt 61 = .ok (.invokestatic 125, 3) := by decide +kernel
theorem dX11_wayAt_64 : decode cX11_wayAt 64 = .ok (.ireturn, 1) := by decide +kernel
theorem dX11_lives_0 : decode cX11_lives 0 = .ok (.aload_n 0, 1) := by decide +kernel
theorem dX11_lives_1 : decode cX11_lives 1 = .ok (.iload_n 1, 1) := by decide +kernel
theorem dX11_lives_2 : decode cX11_lives 2 = .ok (.invokevirtual 118, 3) := by decide +kernel
theorem dX11_lives_5 : decode cX11_lives 5 = .ok (.ifCond .ne 5, 3) := by decide +kernel
theorem dX11_lives_8 : decode cX11_lives 8 = .ok (.iconst (-1), 1) := by decide +kernel
theorem dX11_lives_9 : decode cX11_lives 9 = .ok (.ireturn, 1) := by decide +kernel
theorem dX11_lives_10 : decode cX11_lives 10 = .ok (.aload_n 0, 1) := by decide +kernel
theorem dX11_lives_11 : decode cX11_lives 11 = .ok (.getfield 58, 3) := by decide +kernel
theorem dX11_lives_14 : decode cX11_lives 14 = .ok (.aload_n 0, 1) := by decide +kernel
theorem dX11_lives_15 : decode cX11_lives 15 = .ok (.getfield 27, 3) := by decide +kernel
theorem dX11_lives_18 : decode cX11_lives 18 = .ok (.iload_n 1, 1) := by decide +kernel
theorem dX11_lives_19 : decode cX11_lives 19 = .ok (.invokevirtual 247, 3) := by decide +kernel
theorem dX11_lives_22 : decode cX11_lives 22 = .ok (.aload_n 0, 1) := by decide +kernel
theorem dX11_lives_23 : decode cX11_lives 23 = .ok (.getfield 58, 3) := by decide +kernel
theorem dX11_lives_26 : decode cX11_lives 26 = .ok (.aload_n 0, 1) := by decide +kernel
theorem dX11_lives_27 : decode cX11_lives 27 = .ok (.getfield 27, 3) := by decide +kernel
theorem dX11_lives_30 : decode cX11_lives 30 = .ok (.iload_n 1, 1) := by decide +kernel
theorem dX11_lives_31 : decode cX11_lives 31 = .ok (.invokevirtual 261, 3) := by decide +kernel
theorem dX11_lives_34 : decode cX11_lives 34 = .ok (.ireturn, 1) := by decide +kernel
theorem dX11_turns_0 : decode cX11_turns 0 = .ok (.aload_n 0, 1) := by decide +kernel
theorem dX11_turns_1 : decode cX11_turns 1 = .ok (.iload_n 1, 1) := by decide +kernel
theorem dX11_turns_2 : decode cX11_turns 2 = .ok (.invokevirtual 118, 3) := by decide +kernel
theorem dX11_turns_5 : decode cX11_turns 5 = .ok (.ifCond .eq 18, 3) := by decide +kernel
theorem dX11_turns_8 : decode cX11_turns 8 = .ok (.iload_n 2, 1) := by decide +kernel
theorem dX11_turns_9 : decode cX11_turns 9 = .ok (.ifCond .lt 14, 3) := by decide +kernel
theorem dX11_turns_12 : decode cX11_turns 12 = .ok (.iload_n 2, 1) := by decide +kernel
theorem dX11_turns_13 : decode cX11_turns 13 = .ok (.aload_n 0, 1) := by decide +kernel
theorem dX11_turns_14 : decode cX11_turns 14 = .ok (.getfield 27, 3) := by decide +kernel
theorem dX11_turns_17 : decode cX11_turns 17 = .ok (.getfield 264, 3) := by decide +kernel
theorem dX11_turns_20 : decode cX11_turns 20 = .ok (.if_icmp .lt 7, 3) := by decide +kernel
theorem dX11_turns_23 : decode cX11_turns 23 = .ok (.sipush (-1000), 3) := by decide +kernel
theorem dX11_turns_26 : decode cX11_turns 26 = .ok (.ireturn, 1) := by decide +kernel
theorem dX11_turns_27 : decode cX11_turns 27 = .ok (.aload_n 0, 1) := by decide +kernel
theorem dX11_turns_28 : decode cX11_turns 28 = .ok (.getfield 34, 3) := by decide +kernel
theorem dX11_turns_31 : decode cX11_turns 31 = .ok (.iload_n 1, 1) := by decide +kernel
theorem dX11_turns_32 : decode cX11_turns 32 = .ok (.aload_n 0, 1) := by decide +kernel
theorem dX11_turns_33 : decode cX11_turns 33 = .ok (.getfield 27, 3) := by decide +kernel
theorem dX11_turns_36 : decode cX11_turns 36 = .ok (.getfield 267, 3) := by decide +kernel
theorem dX11_turns_39 : decode cX11_turns 39 = .ok (.iload_n 2, 1) := by decide +kernel
theorem dX11_turns_40 : decode cX11_turns 40 = .ok (.invokestatic 125, 3) := by decide +kernel
theorem dX11_turns_43 : decode cX11_turns 43 = .ok (.aload_n 0, 1) := by decide +kernel
theorem dX11_turns_44 : decode cX11_turns 44 = .ok (.getfield 27, 3) := by decide +kernel
theorem dX11_turns_47 : decode cX11_turns 47 = .ok (.getfield 270, 3) := by decide +kernel
theorem dX11_turns_50 : decode cX11_turns 50 = .ok (.iload_n 2, 1) := by decide +kernel
theorem dX11_turns_51 : decode cX11_turns 51 = .ok (.invokestatic 125, 3) := by decide +kernel
theorem dX11_turns_54 : decode cX11_turns 54 = .ok (.invokevirtual 273, 3) := by decide +kernel
theorem dX11_turns_57 : decode cX11_turns 57 = .ok (.ireturn, 1) := by decide +kernel
theorem dX11_meet_0 : decode cX11_meet 0 = .ok (.aload_n 0, 1) := by decide +kernel
theorem dX11_meet_1 : decode cX11_meet 1 = .ok (.iload_n 1, 1) := by decide +kernel
theorem dX11_meet_2 : decode cX11_meet 2 = .ok (.iload_n 2, 1) := by decide +kernel
theorem dX11_meet_3 : decode cX11_meet 3 = .ok (.invokevirtual 209, 3) := by decide +kernel
theorem dX11_meet_6 : decode cX11_meet 6 = .ok (.ifCond .ne 5, 3) := by decide +kernel
theorem dX11_meet_9 : decode cX11_meet 9 = .ok (.iconst (-1), 1) := by decide +kernel
theorem dX11_meet_10 : decode cX11_meet 10 = .ok (.ireturn, 1) := by decide +kernel
theorem dX11_meet_11 : decode cX11_meet 11 = .ok (.aload_n 0, 1) := by decide +kernel
theorem dX11_meet_12 : decode cX11_meet 12 = .ok (.getfield 38, 3) := by decide +kernel
theorem dX11_meet_15 : decode cX11_meet 15 = .ok (.aload_n 0, 1) := by decide +kernel
theorem dX11_meet_16 : decode cX11_meet 16 = .ok (.getfield 34, 3) := by decide +kernel
theorem dX11_meet_19 : decode cX11_meet 19 = .ok (.invokevirtual 277, 3) := by decide +kernel
theorem dX11_meet_22 : decode cX11_meet 22 = .ok (.iconst 0, 1) := by decide +kernel
theorem dX11_meet_23 : decode cX11_meet 23 = .ok (.istore_n 3, 1) := by decide +kernel
theorem dX11_meet_24 : decode cX11_meet 24 = .ok (.iload_n 3, 1) := by decide +kernel
theorem dX11_meet_25 : decode cX11_meet 25 = .ok (.sipush 200, 3) := by decide +kernel
theorem dX11_meet_28 : decode cX11_meet 28 = .ok (.if_icmp .gt 34, 3) := by decide +kernel
theorem dX11_meet_31 : decode cX11_meet 31 = .ok (.aload_n 0, 1) := by decide +kernel
theorem dX11_meet_32 : decode cX11_meet 32 = .ok (.getfield 38, 3) := by decide +kernel
theorem dX11_meet_35 : decode cX11_meet 35 = .ok (.iload_n 1, 1) := by decide +kernel
theorem dX11_meet_36 : decode cX11_meet 36 = .ok (.iload_n 2, 1) := by decide +kernel
theorem dX11_meet_37 : decode cX11_meet 37 = .ok (.invokevirtual 280, 3) := by decide +kernel
theorem dX11_meet_40 : decode cX11_meet 40 = .ok (.ifCond .ne 5, 3) := by decide +kernel
theorem dX11_meet_43 : decode cX11_meet 43 = .ok (.iload_n 3, 1) := by decide +kernel
theorem dX11_meet_44 : decode cX11_meet 44 = .ok (.ireturn, 1) := by decide +kernel
theorem dX11_meet_45 : decode cX11_meet 45 = .ok (.aload_n 0, 1) := by decide +kernel
theorem dX11_meet_46 : decode cX11_meet 46 = .ok (.getfield 38, 3) := by decide +kernel
theorem dX11_meet_49 : decode cX11_meet 49 = .ok (.aload_n 0, 1) := by decide +kernel
theorem dX11_meet_50 : decode cX11_meet 50 = .ok (.getfield 27, 3) := by decide +kernel
theorem dX11_meet_53 : decode cX11_meet 53 = .ok (.invokevirtual 202, 3) := by decide +kernel
theorem dX11_meet_56 : decode cX11_meet 56 = .ok (.iinc 3 1, 3) := by decide +kernel
theorem dX11_meet_59 : decode cX11_meet 59 = .ok (.goto (-35), 3) := by decide +kernel
theorem dX11_meet_62 : decode cX11_meet 62 = .ok (.bipush (-2), 2) := by decide +kernel
theorem dX11_meet_64 : decode cX11_meet 64 = .ok (.ireturn, 1) := by decide +kernel
theorem dX11_most_0 : decode cX11_most 0 = .ok (.iload_n 1, 1) := by decide +kernel
theorem dX11_most_1 : decode cX11_most 1 = .ok (.ifCond .eq 10, 3) := by decide +kernel
theorem dX11_most_4 : decode cX11_most 4 = .ok (.iload_n 1, 1) := by decide +kernel
theorem dX11_most_5 : decode cX11_most 5 = .ok (.iconst 1, 1) := by decide +kernel
theorem dX11_most_6 : decode cX11_most 6 = .ok (.if_icmp .eq 5, 3) := by decide +kernel
theorem dX11_most_9 : decode cX11_most 9 = .ok (.iconst (-1), 1) := by decide +kernel
theorem dX11_most_10 : decode cX11_most 10 = .ok (.ireturn, 1) := by decide +kernel
theorem dX11_most_11 : decode cX11_most 11 = .ok (.bipush (-2), 2) := by decide +kernel
theorem dX11_most_13 : decode cX11_most 13 = .ok (.istore_n 2, 1) := by decide +kernel
theorem dX11_most_14 : decode cX11_most 14 = .ok (.bipush (-2), 2) := by decide +kernel
theorem dX11_most_16 : decode cX11_most 16 = .ok (.istore_n 3, 1) := by decide +kernel
theorem dX11_most_17 : decode cX11_most 17 = .ok (.iconst 0, 1) := by decide +kernel
theorem dX11_most_18 : decode cX11_most 18 = .ok (.istore 4, 2) := by decide +kernel
theorem dX11_most_20 : decode cX11_most 20 = .ok (.iload 4, 2) := by decide +kernel
theorem dX11_most_22 : decode cX11_most 22 = .ok (.aload_n 0, 1) := by decide +kernel
theorem dX11_most_23 : decode cX11_most 23 = .ok (.getfield 27, 3) := by decide +kernel
theorem dX11_most_26 : decode cX11_most 26 = .ok (.getfield 283, 3) := by decide +kernel
theorem dX11_most_29 : decode cX11_most 29 = .ok (.if_icmp .ge 32, 3) := by decide +kernel
theorem dX11_most_32 : decode cX11_most 32 = .ok (.aload_n 0, 1) := by decide +kernel
theorem dX11_most_33 : decode cX11_most 33 = .ok (.getfield 34, 3) := by decide +kernel
theorem dX11_most_36 : decode cX11_most 36 = .ok (.iload 4, 2) := by decide +kernel
theorem dX11_most_38 : decode cX11_most 38 = .ok (.invokevirtual 286, 3) := by decide +kernel
theorem dX11_most_41 : decode cX11_most 41 = .ok (.istore 5, 2) := by decide +kernel
theorem dX11_most_43 : decode cX11_most 43 = .ok (.iload 5, 2) := by decide +kernel
theorem dX11_most_45 : decode cX11_most 45 = .ok (.iload_n 3, 1) := by decide +kernel
theorem dX11_most_46 : decode cX11_most 46 = .ok (.if_icmp .le 9, 3) := by decide +kernel
theorem dX11_most_49 : decode cX11_most 49 = .ok (.iload 4, 2) := by decide +kernel
theorem dX11_most_51 : decode cX11_most 51 = .ok (.istore_n 2, 1) := by decide +kernel
theorem dX11_most_52 : decode cX11_most 52 = .ok (.iload 5, 2) := by decide +kernel
theorem dX11_most_54 : decode cX11_most 54 = .ok (.istore_n 3, 1) := by decide +kernel
theorem dX11_most_55 : decode cX11_most 55 = .ok (.iinc 4 1, 3) := by decide +kernel
theorem dX11_most_58 : decode cX11_most 58 = .ok (.goto (-38), 3) := by decide +kernel
theorem dX11_most_61 : decode cX11_most 61 = .ok (.iload_n 1, 1) := by decide +kernel
theorem dX11_most_62 : decode cX11_most 62 = .ok (.ifCond .ne 7, 3) := by decide +kernel
theorem dX11_most_65 : decode cX11_most 65 = .ok (.iload_n 2, 1) := by decide +kernel
theorem dX11_most_66 : decode cX11_most 66 = .ok (.goto 4, 3) := by decide +kernel
theorem dX11_most_69 : decode cX11_most 69 = .ok (.iload_n 3, 1) := by decide +kernel
theorem dX11_most_70 : decode cX11_most 70 = .ok (.ireturn, 1) := by decide +kernel
theorem dX11_street_0 : decode cX11_street 0 = .ok (.aload_n 0, 1) := by decide +kernel
theorem dX11_street_1 : decode cX11_street 1 = .ok (.getfield 27, 3) := by decide +kernel
theorem dX11_street_4 : decode cX11_street 4 = .ok (.iload_n 1, 1) := by decide +kernel
theorem dX11_street_5 : decode cX11_street 5 = .ok (.iload_n 2, 1) := by decide +kernel
theorem dX11_street_6 : decode cX11_street 6 = .ok (.iload_n 3, 1) := by decide +kernel
theorem dX11_street_7 : decode cX11_street 7 = .ok (.invokevirtual 289, 3) := by decide +kernel
theorem dX11_street_10 : decode cX11_street 10 = .ok (.ifCond .eq 9, 3) := by decide +kernel
theorem dX11_street_13 : decode cX11_street 13 = .ok (.iload 4, 2) := by decide +kernel
theorem dX11_street_15 : decode cX11_street 15 = .ok (.iconst (-1), 1) := by decide +kernel
theorem dX11_street_16 : decode cX11_street 16 = .ok (.if_icmp .ge 5, 3) := by decide +kernel
theorem dX11_street_19 : decode cX11_street 19 = .ok (.iconst (-1), 1) := by decide +kernel
theorem dX11_street_20 : decode cX11_street 20 = .ok (.ireturn, 1) := by decide +kernel
theorem dX11_street_21 : decode cX11_street 21 = .ok (.iload_n 1, 1) := by decide +kernel
theorem dX11_street_22 : decode cX11_street 22 = .ok (.iload_n 2, 1) := by decide +kernel
theorem dX11_street_23 : decode cX11_street 23 = .ok (.iload_n 3, 1) := by decide +kernel
theorem dX11_street_24 : decode cX11_street 24 = .ok (.invokestatic 293, 3) := by decide +kernel
theorem dX11_street_27 : decode cX11_street 27 = .ok (.istore 5, 2) := by decide +kernel
theorem dX11_street_29 : decode cX11_street 29 = .ok (.aload_n 0, 1) := by decide +kernel
theorem dX11_street_30 : decode cX11_street 30 = .ok (.getfield 34, 3) := by decide +kernel
theorem dX11_street_33 : decode cX11_street 33 = .ok (.iload 5, 2) := by decide +kernel
theorem dX11_street_35 : decode cX11_street 35 = .ok (.invokevirtual 175, 3) := by decide +kernel
theorem dX11_street_38 : decode cX11_street 38 = .ok (.istore 6, 2) := by decide +kernel
theorem dX11_street_40 : decode cX11_street 40 = .ok (.iload 4, 2) := by decide +kernel
theorem dX11_street_42 : decode cX11_street 42 = .ok (.iconst (-1), 1) := by decide +kernel
theorem dX11_street_43 : decode cX11_street 43 = .ok (.if_icmp .ne 6, 3) := by decide +kernel
theorem dX11_street_46 : decode cX11_street 46 = .ok (.iload 6, 2) := by decide +kernel
theorem dX11_street_48 : decode cX11_street 48 = .ok (.ireturn, 1) := by decide +kernel
theorem dX11_street_49 : decode cX11_street 49 = .ok (.iload 4, 2) := by decide +kernel
theorem dX11_street_51 : decode cX11_street 51 = .ok (.iload 6, 2) := by decide +kernel
theorem dX11_street_53 : decode cX11_street 53 = .ok (.if_icmp .ge 25, 3) := by decide +kernel
theorem dX11_street_56 : decode cX11_street 56 = .ok (.aload_n 0, 1) := by decide +kernel
theorem dX11_street_57 : decode cX11_street 57 = .ok (.getfield 34, 3) := by decide +kernel
theorem dX11_street_60 : decode cX11_street 60 = .ok (.iload 5, 2) := by decide +kernel
theorem dX11_street_62 : decode cX11_street 62 = .ok (.iload 6, 2) := by decide +kernel
theorem dX11_street_64 : decode cX11_street 64 = .ok (.iconst 1, 1) := by decide +kernel
theorem dX11_street_65 : decode cX11_street 65 = .ok (.isub, 1) := by decide +kernel
theorem dX11_street_66 : decode cX11_street 66 = .ok (.iload 4, 2) := by decide +kernel
theorem dX11_street_68 : decode cX11_street 68 = .ok (.isub, 1) := by decide +kernel
theorem dX11_street_69 : decode cX11_street 69 = .ok (.invokevirtual 296, 3) := by decide +kernel
theorem dX11_street_72 : decode cX11_street 72 = .ok (.invokestatic 299, 3) := by decide +kernel
theorem dX11_street_75 : decode cX11_street 75 = .ok (.goto 4, 3) := by decide +kernel
theorem dX11_street_78 : decode cX11_street 78 = .ok (.iconst (-1), 1) := by decide +kernel
theorem dX11_street_79 : decode cX11_street 79 = .ok (.ireturn, 1) := by decide +kernel
theorem dX11_dusk_0 : decode cX11_dusk 0 = .ok (.iload_n 1, 1) := by decide +kernel
theorem dX11_dusk_1 : decode cX11_dusk 1 = .ok (.ifCond .lt 17, 3) := by decide +kernel
theorem dX11_dusk_4 : decode cX11_dusk 4 = .ok (.iload_n 1, 1) := by decide +kernel
theorem dX11_dusk_5 : decode cX11_dusk 5 = .ok (.iconst 5, 1) := by decide +kernel
theorem dX11_dusk_6 : decode cX11_dusk 6 = .ok (.if_icmp .ge 12, 3) := by decide +kernel
theorem dX11_dusk_9 : decode cX11_dusk 9 = .ok (.iload_n 2, 1) := by decide +kernel
theorem dX11_dusk_10 : decode cX11_dusk 10 = .ok (.ifCond .lt 8, 3) := by decide +kernel
theorem dX11_dusk_13 : decode cX11_dusk 13 = .ok (.iload_n 2, 1) := by decide +kernel
theorem dX11_dusk_14 : decode cX11_dusk 14 = .ok (.iconst 3, 1) := by decide +kernel
theorem dX11_dusk_15 : decode cX11_dusk 15 = .ok (.if_icmp .le 5, 3) := by decide +kernel
theorem dX11_dusk_18 : decode cX11_dusk 18 = .ok (.iconst (-1), 1) := by decide +kernel
theorem dX11_dusk_19 : decode cX11_dusk 19 = .ok (.ireturn, 1) := by decide +kernel
theorem dX11_dusk_20 : decode cX11_dusk 20 = .ok (.aload_n 0, 1) := by decide +kernel
theorem dX11_dusk_21 : decode cX11_dusk 21 = .ok (.getfield 72, 3) := by decide +kernel
theorem dX11_dusk_24 : decode cX11_dusk 24 = .ok (.aload_n 0, 1) := by decide +kernel
theorem dX11_dusk_25 : decode cX11_dusk 25 = .ok (.getfield 27, 3) := by decide +kernel
theorem dX11_dusk_28 : decode cX11_dusk 28 = .ok (.aload_n 0, 1) := by decide +kernel
theorem dX11_dusk_29 : decode cX11_dusk 29 = .ok (.getfield 34, 3) := by decide +kernel
theorem dX11_dusk_32 : decode cX11_dusk 32 = .ok (.aload_n 0, 1) := by decide +kernel
theorem dX11_dusk_33 : decode cX11_dusk 33 = .ok (.getfield 38, 3) := by decide +kernel
theorem dX11_dusk_36 : decode cX11_dusk 36 = .ok (.iload_n 1, 1) := by decide +kernel
theorem dX11_dusk_37 : decode cX11_dusk 37 = .ok (.invokevirtual 302, 3) := by decide +kernel
theorem dX11_dusk_40 : decode cX11_dusk 40 = .ok (.iload_n 2, 1) := by decide +kernel
theorem dX11_dusk_41 : decode cX11_dusk 41 = .ok (.ifCond .ne 11, 3) := by decide +kernel
theorem dX11_dusk_44 : decode cX11_dusk 44 = .ok (.aload_n 0, 1) := by decide +kernel
theorem dX11_dusk_45 : decode cX11_dusk 45 = .ok (.getfield 72, 3) := by decide +kernel
theorem dX11_dusk_48 : decode cX11_dusk 48 = .ok (.getfield 306, 3) := by decide +kernel
theorem dX11_dusk_51 : decode cX11_dusk 51 = .ok (.ireturn, 1) := by decide +kernel
theorem dX11_dusk_52 : decode cX11_dusk 52 = .ok (.iload_n 2, 1) := by decide +kernel
theorem dX11_dusk_53 : decode cX11_dusk 53 = .ok (.iconst 1, 1) := by decide +kernel
theorem dX11_dusk_54 : decode cX11_dusk 54 = .ok (.if_icmp .ne 11, 3) := by decide +kernel
theorem dX11_dusk_57 : decode cX11_dusk 57 = .ok (.aload_n 0, 1) := by decide +kernel
theorem dX11_dusk_58 : decode cX11_dusk 58 = .ok (.getfield 72, 3) := by decide +kernel
theorem dX11_dusk_61 : decode cX11_dusk 61 = .ok (.getfield 309, 3) := by decide +kernel
theorem dX11_dusk_64 : decode cX11_dusk 64 = .ok (.ireturn, 1) := by decide +kernel
theorem dX11_dusk_65 : decode cX11_dusk 65 = .ok (.aload_n 0, 1) := by decide +kernel
theorem dX11_dusk_66 : decode cX11_dusk 66 = .ok (.getfield 38, 3) := by decide +kernel
theorem dX11_dusk_69 : decode cX11_dusk 69 = .ok (.aload_n 0, 1) := by decide +kernel
theorem dX11_dusk_70 : decode cX11_dusk 70 = .ok (.getfield 27, 3) := by decide +kernel
theorem dX11_dusk_73 : decode cX11_dusk 73 = .ok (.iload_n 2, 1) := by decide +kernel
theorem dX11_dusk_74 : decode cX11_dusk 74 = .ok (.iconst 3, 1) := by decide +kernel
theorem dX11_dusk_75 : decode cX11_dusk 75 = .ok (.if_icmp .ne 7, 3) := by decide +kernel
theorem dX11_dusk_78 : decode cX11_dusk 78 = .ok (.iconst 1, 1) := by decide +kernel
theorem dX11_dusk_79 : decode cX11_dusk 79 = .ok (.goto 4, 3) := by decide +kernel
theorem dX11_dusk_82 : decode cX11_dusk 82 = .ok (.iconst 0, 1) := by decide +kernel
theorem dX11_dusk_83 : decode cX11_dusk 83 = .ok (.invokevirtual 312, 3) := by decide +kernel
theorem dX11_dusk_86 : decode cX11_dusk 86 = .ok (.iload_n 2, 1) := by decide +kernel
theorem dX11_dusk_87 : decode cX11_dusk 87 = .ok (.iconst 2, 1) := by decide +kernel
theorem dX11_dusk_88 : decode cX11_dusk 88 = .ok (.if_icmp .ne 19, 3) := by decide +kernel
theorem dX11_dusk_91 : decode cX11_dusk 91 = .ok (.aload_n 0, 1) := by decide +kernel
theorem dX11_dusk_92 : decode cX11_dusk 92 = .ok (.getfield 38, 3) := by decide +kernel
theorem dX11_dusk_95 : decode cX11_dusk 95 = .ok (.aload_n 0, 1) := by decide +kernel
theorem dX11_dusk_96 : decode cX11_dusk 96 = .ok (.getfield 27, 3) := by decide +kernel
theorem dX11_dusk_99 : decode cX11_dusk 99 = .ok (.invokevirtual 316, 3) := by decide +kernel
theorem dX11_dusk_102 : decode cX11_dusk 102 = .ok (.iconst (-1), 1) := by decide +kernel
theorem dX11_dusk_103 : decode cX11_dusk 103 = .ok (.ixor, 1) := by decide +kernel
theorem dX11_dusk_104 : decode cX11_dusk 104 = .ok (.goto 4, 3) := by decide +kernel
theorem dX11_dusk_107 : decode cX11_dusk 107 = .ok (.iconst (-1), 1) := by decide +kernel
theorem dX11_dusk_108 : decode cX11_dusk 108 = .ok (.iand, 1) := by decide +kernel
theorem dX11_dusk_109 : decode cX11_dusk 109 = .ok (.ireturn, 1) := by decide +kernel
theorem dX11_bestDusk_0 : decode cX11_bestDusk 0 = .ok (.iconst 0, 1) := by decide +kernel
theorem dX11_bestDusk_1 : decode cX11_bestDusk 1 = .ok (.istore_n 1, 1) := by decide +kernel
theorem dX11_bestDusk_2 : decode cX11_bestDusk 2 = .ok (.iconst (-1), 1) := by decide +kernel
theorem dX11_bestDusk_3 : decode cX11_bestDusk 3 = .ok (.istore_n 2, 1) := by decide +kernel
theorem dX11_bestDusk_4 : decode cX11_bestDusk 4 = .ok (.iconst 0, 1) := by decide +kernel
theorem dX11_bestDusk_5 : decode cX11_bestDusk 5 = .ok (.istore_n 3, 1) := by decide +kernel
theorem dX11_bestDusk_6 : decode cX11_bestDusk 6 = .ok (.iconst 0, 1) := by decide +kernel
theorem dX11_bestDusk_7 : decode cX11_bestDusk 7 = .ok (.istore 4, 2) := by decide +kernel
theorem dX11_bestDusk_9 : decode cX11_bestDusk 9 = .ok (.iload 4, 2) := by decide +kernel
theorem dX11_bestDusk_11 : decode cX11_bestDusk 11 = .ok (.iconst 5, 1) := by decide +kernel
theorem dX11_bestDusk_12 : decode cX11_bestDusk 12 = .ok (.if_icmp .ge 106, 3) := by decide +kernel
theorem dX11_bestDusk_15 : decode cX11_bestDusk 15 = .ok (.aload_n 0, 1) := by decide +kernel
theorem dX11_bestDusk_16 : decode cX11_bestDusk 16 = .ok (.getfield 72, 3) := by decide +kernel
theorem dX11_bestDusk_19 : decode cX11_bestDusk 19 = .ok (.aload_n 0, 1) := by decide +kernel
theorem dX11_bestDusk_20 : decode cX11_bestDusk 20 = .ok (.getfield 27, 3) := by decide +kernel
theorem dX11_bestDusk_23 : decode cX11_bestDusk 23 = .ok (.aload_n 0, 1) := by decide +kernel
theorem dX11_bestDusk_24 : decode cX11_bestDusk 24 = .ok (.getfield 34, 3) := by decide +kernel
theorem dX11_bestDusk_27 : decode cX11_bestDusk 27 = .ok (.aload_n 0, 1) := by decide +kernel
theorem dX11_bestDusk_28 : decode cX11_bestDusk 28 = .ok (.getfield 38, 3) := by decide +kernel
theorem dX11_bestDusk_31 : decode cX11_bestDusk 31 = .ok (.iload 4, 2) := by decide +kernel
theorem dX11_bestDusk_33 : decode cX11_bestDusk 33 = .ok (.invokevirtual 302, 3) := by decide +kernel
theorem dX11_bestDusk_36 : decode cX11_bestDusk 36 = .ok (.aload_n 0, 1) := by decide +kernel
theorem dX11_bestDusk_37 : decode cX11_bestDusk 37 = .ok (.getfield 72, 3) := by decide +kernel
theorem dX11_bestDusk_40 : decode cX11_bestDusk 40 = .ok (.getfield 309, 3) := by decide +kernel
theorem dX11_bestDusk_43 : decode cX11_bestDusk 43 = .ok (.iload_n 2, 1) := by decide +kernel
theorem dX11_bestDusk_44 : decode cX11_bestDusk 44 = .ok (.if_icmp .le 7, 3) := by decide +kernel
theorem dX11_bestDusk_47 : decode cX11_bestDusk 47 = .ok (.iconst 1, 1) := by decide +kernel
theorem dX11_bestDusk_48 : decode cX11_bestDusk 48 = .ok (.goto 4, 3) := by decide +kernel
theorem dX11_bestDusk_51 : decode cX11_bestDusk 51 = .ok (.iconst 0, 1) := by decide +kernel
theorem dX11_bestDusk_52 : decode cX11_bestDusk 52 = .ok (.istore 5, 2) := by decide +kernel
theorem dX11_bestDusk_54 : decode cX11_bestDusk 54 = .ok (.aload_n 0, 1) := by decide +kernel
theorem dX11_bestDusk_55 : decode cX11_bestDusk 55 = .ok (.getfield 72, 3) := by decide +kernel
theorem dX11_bestDusk_58 : decode cX11_bestDusk 58 = .ok (.getfield 309, 3) := by decide +kernel
theorem dX11_bestDusk_61 : decode cX11_bestDusk 61 = .ok (.iload_n 2, 1) := by decide +kernel
theorem dX11_bestDusk_62 : decode cX11_bestDusk 62 = .ok (.if_icmp .ne 18, 3) := by decide +kernel
theorem dX11_bestDusk_65 : decode cX11_bestDusk 65 = .ok (.aload_n 0, 1) := by decide +kernel
theorem dX11_bestDusk_66 : decode cX11_bestDusk 66 = .ok (.getfield 72, 3) := by decide +kernel
theorem dX11_bestDusk_69 : decode cX11_bestDusk 69 = .ok (.getfield 306, 3) := by decide +kernel
theorem dX11_bestDusk_72 : decode cX11_bestDusk 72 = .ok (.iload_n 3, 1) := by decide +kernel
theorem dX11_bestDusk_73 : decode cX11_bestDusk 73 = .ok (.if_icmp .ge 7, 3) := by decide +kernel
theorem dX11_bestDusk_76 : decode cX11_bestDusk 76 = .ok (.iconst 1, 1) := by decide +kernel
theorem dX11_bestDusk_77 : decode cX11_bestDusk 77 = .ok (.goto 4, 3) := by decide +kernel
theorem dX11_bestDusk_80 : decode cX11_bestDusk 80 = .ok (.iconst 0, 1) := by decide +kernel
theorem dX11_bestDusk_81 : decode cX11_bestDusk 81 = .ok (.istore 6, 2) := by decide +kernel
theorem dX11_bestDusk_83 : decode cX11_bestDusk 83 = .ok (.iload 5, 2) := by decide +kernel
theorem dX11_bestDusk_85 : decode cX11_bestDusk 85 = .ok (.ifCond .ne 8, 3) := by decide +kernel
theorem dX11_bestDusk_88 : decode cX11_bestDusk 88 = .ok (.iload 6, 2) := by decide +kernel
theorem dX11_bestDusk_90 : decode cX11_bestDusk 90 = .ok (.ifCond .eq 22, 3) := by decide +kernel
theorem dX11_bestDusk_93 : decode cX11_bestDusk 93 = .ok (.iload 4, 2) := by decide +kernel
theorem dX11_bestDusk_95 : decode cX11_bestDusk 95 = .ok (.istore_n 1, 1) := by decide +kernel
theorem dX11_bestDusk_96 : decode cX11_bestDusk 96 = .ok (.aload_n 0, 1) := by decide +kernel
theorem dX11_bestDusk_97 : decode cX11_bestDusk 97 = .ok (.getfield 72, 3) := by decide +kernel
theorem dX11_bestDusk_100 : decode cX11_bestDusk 100 = .ok (.getfield 309, 3) := by decide +kernel
theorem dX11_bestDusk_103 : decode cX11_bestDusk 103 = .ok (.istore_n 2, 1) := by decide +kernel
theorem dX11_bestDusk_104 : decode cX11_bestDusk 104 = .ok (.aload_n 0, 1) := by decide +kernel
theorem dX11_bestDusk_105 : decode cX11_bestDusk 105 = .ok (.getfield 72, 3) := by decide +kernel
theorem dX11_bestDusk_108 : decode cX11_bestDusk 108 = .ok (.getfield 306, 3) := by decide +kernel
theorem dX11_bestDusk_111 : decode cX11_bestDusk 111 = .ok (.istore_n 3, 1) := by decide +kernel
theorem dX11_bestDusk_112 : decode cX11_bestDusk 112 = .ok (.iinc 4 1, 3) := by decide +kernel
theorem dX11_bestDusk_115 : decode cX11_bestDusk 115 = .ok (.goto (-106), 3) := by decide +kernel
theorem dX11_bestDusk_118 : decode cX11_bestDusk 118 = .ok (.iload_n 1, 1) := by decide +kernel
theorem dX11_bestDusk_119 : decode cX11_bestDusk 119 = .ok (.ireturn, 1) := by decide +kernel
theorem dX11_shows_0 : decode cX11_shows 0 = .ok (.aload_n 0, 1) := by decide +kernel
theorem dX11_shows_1 : decode cX11_shows 1 = .ok (.getfield 27, 3) := by decide +kernel
theorem dX11_shows_4 : decode cX11_shows 4 = .ok (.iload_n 1, 1) := by decide +kernel
theorem dX11_shows_5 : decode cX11_shows 5 = .ok (.iload_n 2, 1) := by decide +kernel
theorem dX11_shows_6 : decode cX11_shows 6 = .ok (.iload_n 3, 1) := by decide +kernel
theorem dX11_shows_7 : decode cX11_shows 7 = .ok (.invokevirtual 289, 3) := by decide +kernel
theorem dX11_shows_10 : decode cX11_shows 10 = .ok (.ifCond .ne 5, 3) := by decide +kernel
theorem dX11_shows_13 : decode cX11_shows 13 = .ok (.iconst (-1), 1) := by decide +kernel
theorem dX11_shows_14 : decode cX11_shows 14 = .ok (.ireturn, 1) := by decide +kernel
theorem dX11_shows_15 : decode cX11_shows 15 = .ok (.aload_n 0, 1) := by decide +kernel
theorem dX11_shows_16 : decode cX11_shows 16 = .ok (.getfield 34, 3) := by decide +kernel
theorem dX11_shows_19 : decode cX11_shows 19 = .ok (.getfield 320, 3) := by decide +kernel
theorem dX11_shows_22 : decode cX11_shows 22 = .ok (.iload_n 1, 1) := by decide +kernel
theorem dX11_shows_23 : decode cX11_shows 23 = .ok (.iload_n 2, 1) := by decide +kernel
theorem dX11_shows_24 : decode cX11_shows 24 = .ok (.iload_n 3, 1) := by decide +kernel
theorem dX11_shows_25 : decode cX11_shows 25 = .ok (.invokestatic 293, 3) := by decide +kernel
theorem dX11_shows_28 : decode cX11_shows 28 = .ok (.invokestatic 125, 3) := by decide +kernel
theorem dX11_shows_31 : decode cX11_shows 31 = .ok (.istore 4, 2) := by decide +kernel
theorem dX11_shows_33 : decode cX11_shows 33 = .ok (.iload 4, 2) := by decide +kernel
theorem dX11_shows_35 : decode cX11_shows 35 = .ok (.ifCond .ne 8, 3) := by decide +kernel
theorem dX11_shows_38 : decode cX11_shows 38 = .ok (.bipush (-2), 2) := by decide +kernel
theorem dX11_shows_40 : decode cX11_shows 40 = .ok (.goto 18, 3) := by decide +kernel
theorem dX11_shows_43 : decode cX11_shows 43 = .ok (.aload_n 0, 1) := by decide +kernel
theorem dX11_shows_44 : decode cX11_shows 44 = .ok (.getfield 27, 3) := by decide +kernel
theorem dX11_shows_47 : decode cX11_shows 47 = .ok (.getfield 159, 3) := by decide +kernel
theorem dX11_shows_50 : decode cX11_shows 50 = .ok (.iload 4, 2) := by decide +kernel
theorem dX11_shows_52 : decode cX11_shows 52 = .ok (.invokestatic 299, 3) := by decide +kernel
theorem dX11_shows_55 : decode cX11_shows 55 = .ok (.invokestatic 125, 3) := by decide +kernel
theorem dX11_shows_58 : decode cX11_shows 58 = .ok (.ireturn, 1) := by decide +kernel
theorem dX11_shown_0 : decode cX11_shown 0 = .ok (.iload_n 1, 1) := by decide +kernel
theorem dX11_shown_1 : decode cX11_shown 1 = .ok (.ifCond .lt 9, 3) := by decide +kernel
theorem dX11_shown_4 : decode cX11_shown 4 = .ok (.iload_n 1, 1) := by decide +kernel
theorem dX11_shown_5 : decode cX11_shown 5 = .ok (.bipush 9, 2) := by decide +kernel
theorem dX11_shown_7 : decode cX11_shown 7 = .ok (.if_icmp .le 5, 3) := by decide +kernel
theorem dX11_shown_10 : decode cX11_shown 10 = .ok (.iconst (-1), 1) := by decide +kernel
theorem dX11_shown_11 : decode cX11_shown 11 = .ok (.ireturn, 1) := by decide +kernel
theorem dX11_shown_12 : decode cX11_shown 12 = .ok (.iconst 0, 1) := by decide +kernel
theorem dX11_shown_13 : decode cX11_shown 13 = .ok (.istore_n 2, 1) := by decide +kernel
theorem dX11_shown_14 : decode cX11_shown 14 = .ok (.iconst 0, 1) := by decide +kernel
theorem dX11_shown_15 : decode cX11_shown 15 = .ok (.istore_n 3, 1) := by decide +kernel
theorem dX11_shown_16 : decode cX11_shown 16 = .ok (.iload_n 3, 1) := by decide +kernel
theorem dX11_shown_17 : decode cX11_shown 17 = .ok (.aload_n 0, 1) := by decide +kernel
theorem dX11_shown_18 : decode cX11_shown 18 = .ok (.getfield 27, 3) := by decide +kernel
theorem dX11_shown_21 : decode cX11_shown 21 = .ok (.getfield 283, 3) := by decide +kernel
theorem dX11_shown_24 : decode cX11_shown 24 = .ok (.if_icmp .ge 35, 3) := by decide +kernel
theorem dX11_shown_27 : decode cX11_shown 27 = .ok (.aload_n 0, 1) := by decide +kernel
theorem dX11_shown_28 : decode cX11_shown 28 = .ok (.getfield 27, 3) := by decide +kernel
theorem dX11_shown_31 : decode cX11_shown 31 = .ok (.getfield 159, 3) := by decide +kernel
theorem dX11_shown_34 : decode cX11_shown 34 = .ok (.iload_n 3, 1) := by decide +kernel
theorem dX11_shown_35 : decode cX11_shown 35 = .ok (.invokestatic 125, 3) := by decide +kernel
theorem dX11_shown_38 : decode cX11_shown 38 = .ok (.iload_n 1, 1) := by decide +kernel
theorem dX11_shown_39 : decode cX11_shown 39 = .ok (.if_icmp .ne 14, 3) := by decide +kernel
theorem dX11_shown_42 : decode cX11_shown 42 = .ok (.iload_n 2, 1) := by decide +kernel
theorem dX11_shown_43 : decode cX11_shown 43 = .ok (.aload_n 0, 1) := by decide +kernel
theorem dX11_shown_44 : decode cX11_shown 44 = .ok (.getfield 34, 3) := by decide +kernel
theorem dX11_shown_47 : decode cX11_shown 47 = .ok (.iload_n 3, 1) := by decide +kernel
theorem dX11_shown_48 : decode cX11_shown 48 = .ok (.invokevirtual 323, 3) := by decide +kernel
theorem dX11_shown_51 : decode cX11_shown 51 = .ok (.iadd, 1) := by decide +kernel
theorem dX11_shown_52 : decode cX11_shown 52 = .ok (.istore_n 2, 1) := by decide +kernel
theorem dX11_shown_53 : decode cX11_shown 53 = .ok (.iinc 3 1, 3) := by decide +kernel
theorem dX11_shown_56 : decode cX11_shown 56 = .ok (.goto (-40), 3) := by decide +kernel
theorem dX11_shown_59 : decode cX11_shown 59 = .ok (.iload_n 2, 1) := by decide +kernel
theorem dX11_shown_60 : decode cX11_shown 60 = .ok (.ireturn, 1) := by decide +kernel
theorem dX11_uppermost_0 : decode cX11_uppermost 0 = .ok (.aload_n 0, 1) := by decide +kernel
theorem dX11_uppermost_1 : decode cX11_uppermost 1 = .ok (.iload_n 1, 1) := by decide +kernel
theorem dX11_uppermost_2 : decode cX11_uppermost 2 = .ok (.invokevirtual 118, 3) := by decide +kernel
theorem dX11_uppermost_5 : decode cX11_uppermost 5 = .ok (.ifCond .eq 14, 3) := by decide +kernel
theorem dX11_uppermost_8 : decode cX11_uppermost 8 = .ok (.aload_n 0, 1) := by decide +kernel
theorem dX11_uppermost_9 : decode cX11_uppermost 9 = .ok (.getfield 34, 3) := by decide +kernel
theorem dX11_uppermost_12 : decode cX11_uppermost 12 = .ok (.iload_n 1, 1) := by decide +kernel
theorem dX11_uppermost_13 : decode cX11_uppermost 13 = .ok (.invokevirtual 323, 3) := by decide +kernel
theorem dX11_uppermost_16 : decode cX11_uppermost 16 = .ok (.goto 4, 3) := by decide +kernel
theorem dX11_uppermost_19 : decode cX11_uppermost 19 = .ok (.iconst (-1), 1) := by decide +kernel
theorem dX11_uppermost_20 : decode cX11_uppermost 20 = .ok (.ireturn, 1) := by decide +kernel
theorem dX11_knows_0 : decode cX11_knows 0 = .ok (.aload_n 0, 1) := by decide +kernel
theorem dX11_knows_1 : decode cX11_knows 1 = .ok (.iload_n 1, 1) := by decide +kernel
theorem dX11_knows_2 : decode cX11_knows 2 = .ok (.invokevirtual 118, 3) := by decide +kernel
theorem dX11_knows_5 : decode cX11_knows 5 = .ok (.ifCond .ne 5, 3) := by decide +kernel
theorem dX11_knows_8 : decode cX11_knows 8 = .ok (.iconst (-1), 1) := by decide +kernel
theorem dX11_knows_9 : decode cX11_knows 9 = .ok (.ireturn, 1) := by decide +kernel
theorem dX11_knows_10 : decode cX11_knows 10 = .ok (.aload_n 0, 1) := by decide +kernel
theorem dX11_knows_11 : decode cX11_knows 11 = .ok (.getfield 51, 3) := by decide +kernel
theorem dX11_knows_14 : decode cX11_knows 14 = .ok (.aload_n 0, 1) := by decide +kernel
theorem dX11_knows_15 : decode cX11_knows 15 = .ok (.getfield 27, 3) := by decide +kernel
theorem dX11_knows_18 : decode cX11_knows 18 = .ok (.aload_n 0, 1) := by decide +kernel
theorem dX11_knows_19 : decode cX11_knows 19 = .ok (.getfield 34, 3) := by decide +kernel
theorem dX11_knows_22 : decode cX11_knows 22 = .ok (.invokevirtual 216, 3) := by decide +kernel
theorem dX11_knows_25 : decode cX11_knows 25 = .ok (.aload_n 0, 1) := by decide +kernel
theorem dX11_knows_26 : decode cX11_knows 26 = .ok (.getfield 51, 3) := by decide +kernel
theorem dX11_knows_29 : decode cX11_knows 29 = .ok (.getfield 326, 3) := by decide +kernel
theorem dX11_knows_32 : decode cX11_knows 32 = .ok (.iload_n 1, 1) := by decide +kernel
theorem dX11_knows_33 : decode cX11_knows 33 = .ok (.invokestatic 125, 3) := by decide +kernel
theorem dX11_knows_36 : decode cX11_knows 36 = .ok (.ireturn, 1) := by decide +kernel
theorem dX11_links_0 : decode cX11_links 0 = .ok (.aload_n 0, 1) := by decide +kernel
theorem dX11_links_1 : decode cX11_links 1 = .ok (.iload_n 1, 1) := by decide +kernel
theorem dX11_links_2 : decode cX11_links 2 = .ok (.iload_n 2, 1) := by decide +kernel
theorem dX11_links_3 : decode cX11_links 3 = .ok (.invokevirtual 209, 3) := by decide +kernel
theorem dX11_links_6 : decode cX11_links 6 = .ok (.ifCond .ne 5, 3) := by decide +kernel
theorem dX11_links_9 : decode cX11_links 9 = .ok (.iconst (-1), 1) := by decide +kernel
theorem dX11_links_10 : decode cX11_links 10 = .ok (.ireturn, 1) := by decide +kernel
theorem dX11_links_11 : decode cX11_links 11 = .ok (.aload_n 0, 1) := by decide +kernel
theorem dX11_links_12 : decode cX11_links 12 = .ok (.getfield 51, 3) := by decide +kernel
theorem dX11_links_15 : decode cX11_links 15 = .ok (.aload_n 0, 1) := by decide +kernel
theorem dX11_links_16 : decode cX11_links 16 = .ok (.getfield 27, 3) := by decide +kernel
theorem dX11_links_19 : decode cX11_links 19 = .ok (.aload_n 0, 1) := by decide +kernel
theorem dX11_links_20 : decode cX11_links 20 = .ok (.getfield 34, 3) := by decide +kernel
theorem dX11_links_23 : decode cX11_links 23 = .ok (.invokevirtual 216, 3) := by decide +kernel
theorem dX11_links_26 : decode cX11_links 26 = .ok (.aload_n 0, 1) := by decide +kernel
theorem dX11_links_27 : decode cX11_links 27 = .ok (.getfield 51, 3) := by decide +kernel
theorem dX11_links_30 : decode cX11_links 30 = .ok (.iload_n 1, 1) := by decide +kernel
theorem dX11_links_31 : decode cX11_links 31 = .ok (.iload_n 2, 1) := by decide +kernel
theorem dX11_links_32 : decode cX11_links 32 = .ok (.invokevirtual 329, 3) := by decide +kernel
theorem dX11_links_35 : decode cX11_links 35 = .ok (.ireturn, 1) := by decide +kernel
theorem dX11_rounds_0 : decode cX11_rounds 0 = .ok (.aload_n 0, 1) := by decide +kernel
theorem dX11_rounds_1 : decode cX11_rounds 1 = .ok (.getfield 51, 3) := by decide +kernel
theorem dX11_rounds_4 : decode cX11_rounds 4 = .ok (.aload_n 0, 1) := by decide +kernel
theorem dX11_rounds_5 : decode cX11_rounds 5 = .ok (.getfield 27, 3) := by decide +kernel
theorem dX11_rounds_8 : decode cX11_rounds 8 = .ok (.aload_n 0, 1) := by decide +kernel
theorem dX11_rounds_9 : decode cX11_rounds 9 = .ok (.getfield 34, 3) := by decide +kernel
theorem dX11_rounds_12 : decode cX11_rounds 12 = .ok (.invokevirtual 216, 3) := by decide +kernel
theorem dX11_rounds_15 : decode cX11_rounds 15 = .ok (.aload_n 0, 1) := by decide +kernel
theorem dX11_rounds_16 : decode cX11_rounds 16 = .ok (.getfield 51, 3) := by decide +kernel
theorem dX11_rounds_19 : decode cX11_rounds 19 = .ok (.invokevirtual 332, 3) := by decide +kernel
theorem dX11_rounds_22 : decode cX11_rounds 22 = .ok (.ireturn, 1) := by decide +kernel
theorem dX11_crowd_0 : decode cX11_crowd 0 = .ok (.iload_n 1, 1) := by decide +kernel
theorem dX11_crowd_1 : decode cX11_crowd 1 = .ok (.ifCond .eq 10, 3) := by decide +kernel
theorem dX11_crowd_4 : decode cX11_crowd 4 = .ok (.iload_n 1, 1) := by decide +kernel
theorem dX11_crowd_5 : decode cX11_crowd 5 = .ok (.iconst 1, 1) := by decide +kernel
theorem dX11_crowd_6 : decode cX11_crowd 6 = .ok (.if_icmp .eq 5, 3) := by decide +kernel
theorem dX11_crowd_9 : decode cX11_crowd 9 = .ok (.iconst (-1), 1) := by decide +kernel
theorem dX11_crowd_10 : decode cX11_crowd 10 = .ok (.ireturn, 1) := by decide +kernel
theorem dX11_crowd_11 : decode cX11_crowd 11 = .ok (.aload_n 0, 1) := by decide +kernel
theorem dX11_crowd_12 : decode cX11_crowd 12 = .ok (.getfield 34, 3) := by decide +kernel
theorem dX11_crowd_15 : decode cX11_crowd 15 = .ok (.aload_n 0, 1) := by decide +kernel
theorem dX11_crowd_16 : decode cX11_crowd 16 = .ok (.getfield 27, 3) := by decide +kernel
theorem dX11_crowd_19 : decode cX11_crowd 19 = .ok (.iconst (-1), 1) := by decide +kernel
theorem dX11_crowd_20 : decode cX11_crowd 20 = .ok (.invokevirtual 244, 3) := by decide +kernel
theorem dX11_crowd_23 : decode cX11_crowd 23 = .ok (.ifCond .ne 6, 3) := by decide +kernel
theorem dX11_crowd_26 : decode cX11_crowd 26 = .ok (.bipush (-2), 2) := by decide +kernel
theorem dX11_crowd_28 : decode cX11_crowd 28 = .ok (.ireturn, 1) := by decide +kernel
theorem dX11_crowd_29 : decode cX11_crowd 29 = .ok (.aload_n 0, 1) := by decide +kernel
theorem dX11_crowd_30 : decode cX11_crowd 30 = .ok (.getfield 51, 3) := by decide +kernel
theorem dX11_crowd_33 : decode cX11_crowd 33 = .ok (.aload_n 0, 1) := by decide +kernel
theorem dX11_crowd_34 : decode cX11_crowd 34 = .ok (.getfield 27, 3) := by decide +kernel
theorem dX11_crowd_37 : decode cX11_crowd 37 = .ok (.aload_n 0, 1) := by decide +kernel
theorem dX11_crowd_38 : decode cX11_crowd 38 = .ok (.getfield 34, 3) := by decide +kernel
theorem dX11_crowd_41 : decode cX11_crowd 41 = .ok (.invokevirtual 335, 3) := by decide +kernel
theorem dX11_crowd_44 : decode cX11_crowd 44 = .ok (.istore_n 2, 1) := by decide +kernel
theorem dX11_crowd_45 : decode cX11_crowd 45 = .ok (.iload_n 1, 1) := by decide +kernel
theorem dX11_crowd_46 : decode cX11_crowd 46 = .ok (.iconst 1, 1) := by decide +kernel
theorem dX11_crowd_47 : decode cX11_crowd 47 = .ok (.if_icmp .ne 18, 3) := by decide +kernel
theorem dX11_crowd_50 : decode cX11_crowd 50 = .ok (.aload_n 0, 1) := by decide +kernel
theorem dX11_crowd_51 : decode cX11_crowd 51 = .ok (.getfield 51, 3) := by decide +kernel
theorem dX11_crowd_54 : decode cX11_crowd 54 = .ok (.getfield 338, 3) := by decide +kernel
theorem dX11_crowd_57 : decode cX11_crowd 57 = .ok (.iload_n 2, 1) := by decide +kernel
theorem dX11_crowd_58 : decode cX11_crowd 58 = .ok (.invokestatic 125, 3) := by decide +kernel
theorem dX11_crowd_61 : decode cX11_crowd 61 = .ok (.invokestatic 232, 3) := by decide +kernel
theorem dX11_crowd_64 : decode cX11_crowd 64 = .ok (.ireturn, 1) := by decide +kernel
theorem dX11_crowd_65 : decode cX11_crowd 65 = .ok (.bipush 100, 2) := by decide +kernel
theorem dX11_crowd_67 : decode cX11_crowd 67 = .ok (.iload_n 2, 1) := by decide +kernel
theorem dX11_crowd_68 : decode cX11_crowd 68 = .ok (.bipush 12, 2) := by decide +kernel
theorem dX11_crowd_70 : decode cX11_crowd 70 = .ok (.idiv, 1) := by decide +kernel
theorem dX11_crowd_71 : decode cX11_crowd 71 = .ok (.imul, 1) := by decide +kernel
theorem dX11_crowd_72 : decode cX11_crowd 72 = .ok (.iload_n 2, 1) := by decide +kernel
theorem dX11_crowd_73 : decode cX11_crowd 73 = .ok (.bipush 12, 2) := by decide +kernel
theorem dX11_crowd_75 : decode cX11_crowd 75 = .ok (.irem, 1) := by decide +kernel
theorem dX11_crowd_76 : decode cX11_crowd 76 = .ok (.iadd, 1) := by decide +kernel
theorem dX11_crowd_77 : decode cX11_crowd 77 = .ok (.ireturn, 1) := by decide +kernel
theorem dX11_plain_0 : decode cX11_plain 0 = .ok (.iload_n 1, 1) := by decide +kernel
theorem dX11_plain_1 : decode cX11_plain 1 = .ok (.ifCond .eq 10, 3) := by decide +kernel
theorem dX11_plain_4 : decode cX11_plain 4 = .ok (.iload_n 1, 1) := by decide +kernel
theorem dX11_plain_5 : decode cX11_plain 5 = .ok (.iconst 1, 1) := by decide +kernel
theorem dX11_plain_6 : decode cX11_plain 6 = .ok (.if_icmp .eq 5, 3) := by decide +kernel
theorem dX11_plain_9 : decode cX11_plain 9 = .ok (.iconst (-1), 1) := by decide +kernel
theorem dX11_plain_10 : decode cX11_plain 10 = .ok (.ireturn, 1) := by decide +kernel
theorem dX11_plain_11 : decode cX11_plain 11 = .ok (.aload_n 0, 1) := by decide +kernel
theorem dX11_plain_12 : decode cX11_plain 12 = .ok (.getfield 65, 3) := by decide +kernel
theorem dX11_plain_15 : decode cX11_plain 15 = .ok (.aload_n 0, 1) := by decide +kernel
theorem dX11_plain_16 : decode cX11_plain 16 = .ok (.getfield 27, 3) := by decide +kernel
theorem dX11_plain_19 : decode cX11_plain 19 = .ok (.aload_n 0, 1) := by decide +kernel
theorem dX11_plain_20 : decode cX11_plain 20 = .ok (.getfield 58, 3) := by decide +kernel
theorem dX11_plain_23 : decode cX11_plain 23 = .ok (.invokevirtual 341, 3) := by decide +kernel
theorem dX11_plain_26 : decode cX11_plain 26 = .ok (.iload_n 1, 1) := by decide +kernel
theorem dX11_plain_27 : decode cX11_plain 27 = .ok (.ifCond .ne 13, 3) := by decide +kernel
theorem dX11_plain_30 : decode cX11_plain 30 = .ok (.aload_n 0, 1) := by decide +kernel
theorem dX11_plain_31 : decode cX11_plain 31 = .ok (.getfield 65, 3) := by decide +kernel
theorem dX11_plain_34 : decode cX11_plain 34 = .ok (.getfield 345, 3) := by decide +kernel
theorem dX11_plain_37 : decode cX11_plain 37 = .ok (.goto 10, 3) := by decide +kernel
theorem dX11_plain_40 : decode cX11_plain 40 = .ok (.aload_n 0, 1) := by decide +kernel
theorem dX11_plain_41 : decode cX11_plain 41 = .ok (.getfield 65, 3) := by decide +kernel
theorem dX11_plain_44 : decode cX11_plain 44 = .ok (.getfield 347, 3) := by decide +kernel
theorem dX11_plain_47 : decode cX11_plain 47 = .ok (.ireturn, 1) := by decide +kernel
theorem dX11_thieves_0 : decode cX11_thieves 0 = .ok (.iconst 0, 1) := by decide +kernel
theorem dX11_thieves_1 : decode cX11_thieves 1 = .ok (.istore_n 1, 1) := by decide +kernel
theorem dX11_thieves_2 : decode cX11_thieves 2 = .ok (.iconst 0, 1) := by decide +kernel
theorem dX11_thieves_3 : decode cX11_thieves 3 = .ok (.istore_n 2, 1) := by decide +kernel
theorem dX11_thieves_4 : decode cX11_thieves 4 = .ok (.iload_n 2, 1) := by decide +kernel
theorem dX11_thieves_5 : decode cX11_thieves 5 = .ok (.aload_n 0, 1) := by decide +kernel
theorem dX11_thieves_6 : decode cX11_thieves 6 = .ok (.getfield 27, 3) := by decide +kernel
theorem dX11_thieves_9 : decode cX11_thieves 9 = .ok (.getfield 283, 3) := by decide +kernel
theorem dX11_thieves_12 : decode cX11_thieves 12 = .ok (.if_icmp .ge 67, 3) := by decide +kernel
theorem dX11_thieves_15 : decode cX11_thieves 15 = .ok (.iconst 0, 1) := by decide +kernel
theorem dX11_thieves_16 : decode cX11_thieves 16 = .ok (.istore_n 3, 1) := by decide +kernel
theorem dX11_thieves_17 : decode cX11_thieves 17 = .ok (.iload_n 3, 1) := by decide +kernel
theorem dX11_thieves_18 : decode cX11_thieves 18 = .ok (.aload_n 0, 1) := by decide +kernel
theorem dX11_thieves_19 : decode cX11_thieves 19 = .ok (.getfield 27, 3) := by decide +kernel
theorem dX11_thieves_22 : decode cX11_thieves 22 = .ok (.getfield 264, 3) := by decide +kernel
theorem dX11_thieves_25 : decode cX11_thieves 25 = .ok (.if_icmp .ge 48, 3) := by decide +kernel
theorem dX11_thieves_28 : decode cX11_thieves 28 = .ok (.aload_n 0, 1) := by decide +kernel
theorem dX11_thieves_29 : decode cX11_thieves 29 = .ok (.getfield 34, 3) := by decide +kernel
theorem dX11_thieves_32 : decode cX11_thieves 32 = .ok (.iload_n 2, 1) := by decide +kernel
theorem dX11_thieves_33 : decode cX11_thieves 33 = .ok (.aload_n 0, 1) := by decide +kernel
theorem dX11_thieves_34 : decode cX11_thieves 34 = .ok (.getfield 27, 3) := by decide +kernel
theorem dX11_thieves_37 : decode cX11_thieves 37 = .ok (.getfield 267, 3) := by decide +kernel
theorem dX11_thieves_40 : decode cX11_thieves 40 = .ok (.iload_n 3, 1) := by decide +kernel
theorem dX11_thieves_41 : decode cX11_thieves 41 = .ok (.invokestatic 125, 3) := by decide +kernel
theorem dX11_thieves_44 : decode cX11_thieves 44 = .ok (.aload_n 0, 1) := by decide +kernel
theorem dX11_thieves_45 : decode cX11_thieves 45 = .ok (.getfield 27, 3) := by decide +kernel
theorem dX11_thieves_48 : decode cX11_thieves 48 = .ok (.getfield 270, 3) := by decide +kernel
theorem dX11_thieves_51 : decode cX11_thieves 51 = .ok (.iload_n 3, 1) := by decide +kernel
theorem dX11_thieves_52 : decode cX11_thieves 52 = .ok (.invokestatic 125, 3) := by decide +kernel
theorem dX11_thieves_55 : decode cX11_thieves 55 = .ok (.invokevirtual 273, 3) := by decide +kernel
theorem dX11_thieves_58 : decode cX11_thieves 58 = .ok (.ifCond .ge 9, 3) := by decide +kernel
theorem dX11_thieves_61 : decode cX11_thieves 61 = .ok (.iload_n 1, 1) := by decide +kernel
theorem dX11_thieves_62 : decode cX11_thieves 62 = .ok (.iconst 1, 1) := by decide +kernel
theorem dX11_thieves_63 : decode cX11_thieves 63 = .ok (.iload_n 2, 1) := by decide +kernel
theorem dX11_thieves_64 : decode cX11_thieves 64 = .ok (.ishl, 1) := by decide +kernel
theorem dX11_thieves_65 : decode cX11_thieves 65 = .ok (.ior, 1) := by decide +kernel
theorem dX11_thieves_66 : decode cX11_thieves 66 = .ok (.istore_n 1, 1) := by decide +kernel
theorem dX11_thieves_67 : decode cX11_thieves 67 = .ok (.iinc 3 1, 3) := by decide +kernel
theorem dX11_thieves_70 : decode cX11_thieves 70 = .ok (.goto (-53), 3) := by decide +kernel
theorem dX11_thieves_73 : decode cX11_thieves 73 = .ok (.iinc 2 1, 3) := by decide +kernel
theorem dX11_thieves_76 : decode cX11_thieves 76 = .ok (.goto (-72), 3) := by decide +kernel
theorem dX11_thieves_79 : decode cX11_thieves 79 = .ok (.iload_n 1, 1) := by decide +kernel
theorem dX11_thieves_80 : decode cX11_thieves 80 = .ok (.ireturn, 1) := by decide +kernel
theorem dX11_nearest_0 : decode cX11_nearest 0 = .ok (.aload_n 0, 1) := by decide +kernel
theorem dX11_nearest_1 : decode cX11_nearest 1 = .ok (.iload_n 1, 1) := by decide +kernel
theorem dX11_nearest_2 : decode cX11_nearest 2 = .ok (.invokevirtual 118, 3) := by decide +kernel
theorem dX11_nearest_5 : decode cX11_nearest 5 = .ok (.ifCond .eq 12, 3) := by decide +kernel
theorem dX11_nearest_8 : decode cX11_nearest 8 = .ok (.iload_n 2, 1) := by decide +kernel
theorem dX11_nearest_9 : decode cX11_nearest 9 = .ok (.ifCond .eq 10, 3) := by decide +kernel
theorem dX11_nearest_12 : decode cX11_nearest 12 = .ok (.iload_n 2, 1) := by decide +kernel
theorem dX11_nearest_13 : decode cX11_nearest 13 = .ok (.iconst 1, 1) := by decide +kernel
theorem dX11_nearest_14 : decode cX11_nearest 14 = .ok (.if_icmp .eq 5, 3) := by decide +kernel
theorem dX11_nearest_17 : decode cX11_nearest 17 = .ok (.iconst (-1), 1) := by decide +kernel
theorem dX11_nearest_18 : decode cX11_nearest 18 = .ok (.ireturn, 1) := by decide +kernel
theorem dX11_nearest_19 : decode cX11_nearest 19 = .ok (.bipush (-2), 2) := by decide +kernel
theorem dX11_nearest_21 : decode cX11_nearest 21 = .ok (.istore_n 3, 1) := by decide +kernel
theorem dX11_nearest_22 : decode cX11_nearest 22 = .ok (.ldc_w 350, 3) := by decide +kernel
theorem dX11_nearest_25 : decode cX11_nearest 25 = .ok (.istore 4, 2) := by decide +kernel
theorem dX11_nearest_27 : decode cX11_nearest 27 = .ok (.iconst 0, 1) := by decide +kernel
theorem dX11_nearest_28 : decode cX11_nearest 28 = .ok (.istore 5, 2) := by decide +kernel
theorem dX11_nearest_30 : decode cX11_nearest 30 = .ok (.iload 5, 2) := by decide +kernel
theorem dX11_nearest_32 : decode cX11_nearest 32 = .ok (.aload_n 0, 1) := by decide +kernel
theorem dX11_nearest_33 : decode cX11_nearest 33 = .ok (.getfield 27, 3) := by decide +kernel
theorem dX11_nearest_36 : decode cX11_nearest 36 = .ok (.getfield 283, 3) := by decide +kernel
theorem dX11_nearest_39 : decode cX11_nearest 39 = .ok (.if_icmp .ge 41, 3) := by decide +kernel
theorem dX11_nearest_42 : decode cX11_nearest 42 = .ok (.aload_n 0, 1) := by decide +kernel
theorem dX11_nearest_43 : decode cX11_nearest 43 = .ok (.getfield 34, 3) := by decide +kernel
theorem dX11_nearest_46 : decode cX11_nearest 46 = .ok (.iload_n 1, 1) := by decide +kernel
theorem dX11_nearest_47 : decode cX11_nearest 47 = .ok (.iload 5, 2) := by decide +kernel
theorem dX11_nearest_49 : decode cX11_nearest 49 = .ok (.invokevirtual 280, 3) := by decide +kernel
theorem dX11_nearest_52 : decode cX11_nearest 52 = .ok (.istore 6, 2) := by decide +kernel
theorem dX11_nearest_54 : decode cX11_nearest 54 = .ok (.iload 5, 2) := by decide +kernel
theorem dX11_nearest_56 : decode cX11_nearest 56 = .ok (.iload_n 1, 1) := by decide +kernel
theorem dX11_nearest_57 : decode cX11_nearest 57 = .ok (.if_icmp .eq 17, 3) := by decide +kernel
theorem dX11_nearest_60 : decode cX11_nearest 60 = .ok (.iload 6, 2) := by decide +kernel
theorem dX11_nearest_62 : decode cX11_nearest 62 = .ok (.iload 4, 2) := by decide +kernel
theorem dX11_nearest_64 : decode cX11_nearest 64 = .ok (.if_icmp .ge 10, 3) := by decide +kernel
theorem dX11_nearest_67 : decode cX11_nearest 67 = .ok (.iload 5, 2) := by decide +kernel
theorem dX11_nearest_69 : decode cX11_nearest 69 = .ok (.istore_n 3, 1) := by decide +kernel
theorem dX11_nearest_70 : decode cX11_nearest 70 = .ok (.iload 6, 2) := by decide +kernel
theorem dX11_nearest_72 : decode cX11_nearest 72 = .ok (.istore 4, 2) := by decide +kernel
theorem dX11_nearest_74 : decode cX11_nearest 74 = .ok (.iinc 5 1, 3) := by decide +kernel
theorem dX11_nearest_77 : decode cX11_nearest 77 = .ok (.goto (-47), 3) := by decide +kernel
theorem dX11_nearest_80 : decode cX11_nearest 80 = .ok (.iload_n 2, 1) := by decide +kernel
theorem dX11_nearest_81 : decode cX11_nearest 81 = .ok (.ifCond .eq 9, 3) := by decide +kernel
theorem dX11_nearest_84 : decode cX11_nearest 84 = .ok (.iload_n 3, 1) := by decide +kernel
theorem dX11_nearest_85 : decode cX11_nearest 85 = .ok (.bipush (-2), 2) := by decide +kernel
theorem dX11_nearest_87 : decode cX11_nearest 87 = .ok (.if_icmp .ne 7, 3) := by decide +kernel
theorem dX11_nearest_90 : decode cX11_nearest 90 = .ok (.iload_n 3, 1) := by decide +kernel
theorem dX11_nearest_91 : decode cX11_nearest 91 = .ok (.goto 5, 3) := by decide +kernel
theorem dX11_nearest_94 : decode cX11_nearest 94 = .ok (.iload 4, 2) := by decide +kernel
theorem dX11_nearest_96 : decode cX11_nearest 96 = .ok (.ireturn, 1) := by decide +kernel
theorem dX11_unfair_0 : decode cX11_unfair 0 = .ok (.aload_n 0, 1) := by decide +kernel
theorem dX11_unfair_1 : decode cX11_unfair 1 = .ok (.getfield 27, 3) := by decide +kernel
theorem dX11_unfair_4 : decode cX11_unfair 4 = .ok (.getfield 283, 3) := by decide +kernel
theorem dX11_unfair_7 : decode cX11_unfair 7 = .ok (.ifCond .ne 5, 3) := by decide +kernel
theorem dX11_unfair_10 : decode cX11_unfair 10 = .ok (.iconst 0, 1) := by decide +kernel
theorem dX11_unfair_11 : decode cX11_unfair 11 = .ok (.ireturn, 1) := by decide +kernel
theorem dX11_unfair_12 : decode cX11_unfair 12 = .ok (.iconst 0, 1) := by decide +kernel
theorem dX11_unfair_13 : decode cX11_unfair 13 = .ok (.istore_n 1, 1) := by decide +kernel
theorem dX11_unfair_14 : decode cX11_unfair 14 = .ok (.ldc_w 350, 3) := by decide +kernel
theorem dX11_unfair_17 : decode cX11_unfair 17 = .ok (.istore_n 2, 1) := by decide +kernel
theorem dX11_unfair_18 : decode cX11_unfair 18 = .ok (.iconst 0, 1) := by decide +kernel
theorem dX11_unfair_19 : decode cX11_unfair 19 = .ok (.istore_n 3, 1) := by decide +kernel
theorem dX11_unfair_20 : decode cX11_unfair 20 = .ok (.iload_n 3, 1) := by decide +kernel
theorem dX11_unfair_21 : decode cX11_unfair 21 = .ok (.aload_n 0, 1) := by decide +kernel
theorem dX11_unfair_22 : decode cX11_unfair 22 = .ok (.getfield 27, 3) := by decide +kernel
theorem dX11_unfair_25 : decode cX11_unfair 25 = .ok (.getfield 283, 3) := by decide +kernel
theorem dX11_unfair_28 : decode cX11_unfair 28 = .ok (.if_icmp .ge 33, 3) := by decide +kernel
theorem dX11_unfair_31 : decode cX11_unfair 31 = .ok (.aload_n 0, 1) := by decide +kernel
theorem dX11_unfair_32 : decode cX11_unfair 32 = .ok (.getfield 34, 3) := by decide +kernel
theorem dX11_unfair_35 : decode cX11_unfair 35 = .ok (.iload_n 3, 1) := by decide +kernel
theorem dX11_unfair_36 : decode cX11_unfair 36 = .ok (.invokevirtual 286, 3) := by decide +kernel
theorem dX11_unfair_39 : decode cX11_unfair 39 = .ok (.istore 4, 2) := by decide +kernel
theorem dX11_unfair_41 : decode cX11_unfair 41 = .ok (.iload_n 1, 1) := by decide +kernel
theorem dX11_unfair_42 : decode cX11_unfair 42 = .ok (.iload 4, 2) := by decide +kernel
theorem dX11_unfair_44 : decode cX11_unfair 44 = .ok (.invokestatic 351, 3) := by decide +kernel
theorem dX11_unfair_47 : decode cX11_unfair 47 = .ok (.istore_n 1, 1) := by decide +kernel
theorem dX11_unfair_48 : decode cX11_unfair 48 = .ok (.iload_n 2, 1) := by decide +kernel
theorem dX11_unfair_49 : decode cX11_unfair 49 = .ok (.iload 4, 2) := by decide +kernel
theorem dX11_unfair_51 : decode cX11_unfair 51 = .ok (.invokestatic 356, 3) := by decide +kernel
theorem dX11_unfair_54 : decode cX11_unfair 54 = .ok (.istore_n 2, 1) := by decide +kernel
theorem dX11_unfair_55 : decode cX11_unfair 55 = .ok (.iinc 3 1, 3) := by decide +kernel
theorem dX11_unfair_58 : decode cX11_unfair 58 = .ok (.goto (-38), 3) := by decide +kernel
theorem dX11_unfair_61 : decode cX11_unfair 61 = .ok (.iload_n 1, 1) := by decide +kernel
theorem dX11_unfair_62 : decode cX11_unfair 62 = .ok (.iload_n 2, 1) := by decide +kernel
theorem dX11_unfair_63 : decode cX11_unfair 63 = .ok (.isub, 1) := by decide +kernel
theorem dX11_unfair_64 : decode cX11_unfair 64 = .ok (.ireturn, 1) := by decide +kernel
theorem dX11_tell_0 : decode cX11_tell 0 = .ok (.aload_n 0, 1) := by decide +kernel
theorem dX11_tell_1 : decode cX11_tell 1 = .ok (.iload_n 1, 1) := by decide +kernel
theorem dX11_tell_2 : decode cX11_tell 2 = .ok (.iload_n 2, 1) := by decide +kernel
theorem dX11_tell_3 : decode cX11_tell 3 = .ok (.invokevirtual 209, 3) := by decide +kernel
theorem dX11_tell_6 : decode cX11_tell 6 = .ok (.ifCond .eq 16, 3) := by decide +kernel
theorem dX11_tell_9 : decode cX11_tell 9 = .ok (.aload_n 0, 1) := by decide +kernel
theorem dX11_tell_10 : decode cX11_tell 10 = .ok (.getfield 79, 3) := by decide +kernel
theorem dX11_tell_13 : decode cX11_tell 13 = .ok (.iload_n 1, 1) := by decide +kernel
theorem dX11_tell_14 : decode cX11_tell 14 = .ok (.iload_n 2, 1) := by decide +kernel
theorem dX11_tell_15 : decode cX11_tell 15 = .ok (.iload_n 3, 1) := by decide +kernel
theorem dX11_tell_16 : decode cX11_tell 16 = .ok (.invokevirtual 359, 3) := by decide +kernel
theorem dX11_tell_19 : decode cX11_tell 19 = .ok (.goto 4, 3) := by decide +kernel
theorem dX11_tell_22 : decode cX11_tell 22 = .ok (.iconst (-1), 1) := by decide +kernel
theorem dX11_tell_23 : decode cX11_tell 23 = .ok (.ireturn, 1) := by decide +kernel
theorem dX11_forget_0 : decode cX11_forget 0 = .ok (.aload_n 0, 1) := by decide +kernel
theorem dX11_forget_1 : decode cX11_forget 1 = .ok (.getfield 79, 3) := by decide +kernel
theorem dX11_forget_4 : decode cX11_forget 4 = .ok (.getfield 115, 3) := by decide +kernel
theorem dX11_forget_7 : decode cX11_forget 7 = .ok (.istore_n 1, 1) := by decide +kernel
theorem dX11_forget_8 : decode cX11_forget 8 = .ok (.aload_n 0, 1) := by decide +kernel
theorem dX11_forget_9 : decode cX11_forget 9 = .ok (.getfield 79, 3) := by decide +kernel
theorem dX11_forget_12 : decode cX11_forget 12 = .ok (.iconst 0, 1) := by decide +kernel
theorem dX11_forget_13 : decode cX11_forget 13 = .ok (.putfield 115, 3) := by decide +kernel
theorem dX11_forget_16 : decode cX11_forget 16 = .ok (.iload_n 1, 1) := by decide +kernel
theorem dX11_forget_17 : decode cX11_forget 17 = .ok (.ireturn, 1) := by decide +kernel
theorem dX11_starts_0 : decode cX11_starts 0 = .ok (.iload_n 1, 1) := by decide +kernel
theorem dX11_starts_1 : decode cX11_starts 1 = .ok (.ifCond .lt 33, 3) := by decide +kernel
theorem dX11_starts_4 : decode cX11_starts 4 = .ok (.iload_n 1, 1) := by decide +kernel
theorem dX11_starts_5 : decode cX11_starts 5 = .ok (.iconst 3, 1) := by decide +kernel
theorem dX11_starts_6 : decode cX11_starts 6 = .ok (.if_icmp .gt 28, 3) := by decide +kernel
theorem dX11_starts_9 : decode cX11_starts 9 = .ok (.iload_n 2, 1) := by decide +kernel
theorem dX11_starts_10 : decode cX11_starts 10 = .ok (.ifCond .lt 24, 3) := by decide +kernel
theorem dX11_starts_13 : decode cX11_starts 13 = .ok (.iload_n 2, 1) := by decide +kernel
theorem dX11_starts_14 : decode cX11_starts 14 = .ok (.bipush 40, 2) := by decide +kernel
theorem dX11_starts_16 : decode cX11_starts 16 = .ok (.if_icmp .gt 18, 3) := by decide +kernel
theorem dX11_starts_19 : decode cX11_starts 19 = .ok (.iload_n 3, 1) := by decide +kernel
theorem dX11_starts_20 : decode cX11_starts 20 = .ok (.ifCond .lt 14, 3) := by decide +kernel
theorem dX11_starts_23 : decode cX11_starts 23 = .ok (.iload_n 3, 1) := by decide +kernel
theorem dX11_starts_24 : decode cX11_starts 24 = .ok (.aload_n 0, 1) := by decide +kernel
theorem dX11_starts_25 : decode cX11_starts 25 = .ok (.getfield 79, 3) := by decide +kernel
theorem dX11_starts_28 : decode cX11_starts 28 = .ok (.getfield 115, 3) := by decide +kernel
theorem dX11_starts_31 : decode cX11_starts 31 = .ok (.if_icmp .le 5, 3) := by decide +kernel
theorem dX11_starts_34 : decode cX11_starts 34 = .ok (.iconst (-1), 1) := by decide +kernel
theorem dX11_starts_35 : decode cX11_starts 35 = .ok (.ireturn, 1) := by decide +kernel
theorem dX11_starts_36 : decode cX11_starts 36 = .ok (.aload_n 0, 1) := by decide +kernel
theorem dX11_starts_37 : decode cX11_starts 37 = .ok (.getfield 79, 3) := by decide +kernel
theorem dX11_starts_40 : decode cX11_starts 40 = .ok (.aload_n 0, 1) := by decide +kernel
theorem dX11_starts_41 : decode cX11_starts 41 = .ok (.getfield 27, 3) := by decide +kernel
theorem dX11_starts_44 : decode cX11_starts 44 = .ok (.aload_n 0, 1) := by decide +kernel
theorem dX11_starts_45 : decode cX11_starts 45 = .ok (.getfield 38, 3) := by decide +kernel
theorem dX11_starts_48 : decode cX11_starts 48 = .ok (.iload_n 1, 1) := by decide +kernel
theorem dX11_starts_49 : decode cX11_starts 49 = .ok (.iload_n 2, 1) := by decide +kernel
theorem dX11_starts_50 : decode cX11_starts 50 = .ok (.iload_n 3, 1) := by decide +kernel
theorem dX11_starts_51 : decode cX11_starts 51 = .ok (.invokevirtual 363, 3) := by decide +kernel
theorem dX11_starts_54 : decode cX11_starts 54 = .ok (.ireturn, 1) := by decide +kernel
theorem dX11_hold_0 : decode cX11_hold 0 = .ok (.aload_n 0, 1) := by decide +kernel
theorem dX11_hold_1 : decode cX11_hold 1 = .ok (.getfield 44, 3) := by decide +kernel
theorem dX11_hold_4 : decode cX11_hold 4 = .ok (.iload_n 1, 1) := by decide +kernel
theorem dX11_hold_5 : decode cX11_hold 5 = .ok (.aload_n 0, 1) := by decide +kernel
theorem dX11_hold_6 : decode cX11_hold 6 = .ok (.getfield 34, 3) := by decide +kernel
theorem dX11_hold_9 : decode cX11_hold 9 = .ok (.invokevirtual 367, 3) := by decide +kernel
theorem dX11_hold_12 : decode cX11_hold 12 = .ok (.ireturn, 1) := by decide +kernel
theorem dX11_restore_0 : decode cX11_restore 0 = .ok (.aload_n 0, 1) := by decide +kernel
theorem dX11_restore_1 : decode cX11_restore 1 = .ok (.getfield 44, 3) := by decide +kernel
theorem dX11_restore_4 : decode cX11_restore 4 = .ok (.iload_n 1, 1) := by decide +kernel
theorem dX11_restore_5 : decode cX11_restore 5 = .ok (.aload_n 0, 1) := by decide +kernel
theorem dX11_restore_6 : decode cX11_restore 6 = .ok (.getfield 34, 3) := by decide +kernel
theorem dX11_restore_9 : decode cX11_restore 9 = .ok (.invokevirtual 371, 3) := by decide +kernel
theorem dX11_restore_12 : decode cX11_restore 12 = .ok (.ireturn, 1) := by decide +kernel
theorem dX11_count_0 : decode cX11_count 0 = .ok (.iload_n 1, 1) := by decide +kernel
theorem dX11_count_1 : decode cX11_count 1 = .ok (.tableswitch 168 0 11 #[63, 71, 79, 87, 95, 108, 123, 131, 139, 144, 152, 160], 63) := by decide +kernel
theorem dX11_count_64 : decode cX11_count 64 = .ok (.aload_n 0, 1) := by decide +kernel
theorem dX11_count_65 : decode cX11_count 65 = .ok (.getfield 27, 3) := by decide +kernel
theorem dX11_count_68 : decode cX11_count 68 = .ok (.getfield 283, 3) := by decide +kernel
theorem dX11_count_71 : decode cX11_count 71 = .ok (.ireturn, 1) := by decide +kernel
theorem dX11_count_72 : decode cX11_count 72 = .ok (.aload_n 0, 1) := by decide +kernel
theorem dX11_count_73 : decode cX11_count 73 = .ok (.getfield 27, 3) := by decide +kernel
theorem dX11_count_76 : decode cX11_count 76 = .ok (.getfield 374, 3) := by decide +kernel
theorem dX11_count_79 : decode cX11_count 79 = .ok (.ireturn, 1) := by decide +kernel
theorem dX11_count_80 : decode cX11_count 80 = .ok (.aload_n 0, 1) := by decide +kernel
theorem dX11_count_81 : decode cX11_count 81 = .ok (.getfield 27, 3) := by decide +kernel
theorem dX11_count_84 : decode cX11_count 84 = .ok (.getfield 377, 3) := by decide +kernel
theorem dX11_count_87 : decode cX11_count 87 = .ok (.ireturn, 1) := by decide +kernel
theorem dX11_count_88 : decode cX11_count 88 = .ok (.aload_n 0, 1) := by decide +kernel
theorem dX11_count_89 : decode cX11_count 89 = .ok (.getfield 34, 3) := by decide +kernel
theorem dX11_count_92 : decode cX11_count 92 = .ok (.getfield 152, 3) := by decide +kernel
theorem dX11_count_95 : decode cX11_count 95 = .ok (.ireturn, 1) := by decide +kernel
theorem dX11_count_96 : decode cX11_count 96 = .ok (.aload_n 0, 1) := by decide +kernel
theorem dX11_count_97 : decode cX11_count 97 = .ok (.getfield 34, 3) := by decide +kernel
theorem dX11_count_100 : decode cX11_count 100 = .ok (.aload_n 0, 1) := by decide +kernel
theorem dX11_count_101 : decode cX11_count 101 = .ok (.getfield 27, 3) := by decide +kernel
theorem dX11_count_104 : decode cX11_count 104 = .ok (.iconst (-1), 1) := by decide +kernel
theorem dX11_count_105 : decode cX11_count 105 = .ok (.invokevirtual 244, 3) := by decide +kernel
theorem dX11_count_108 : decode cX11_count 108 = .ok (.ireturn, 1) := by decide +kernel
theorem dX11_count_109 : decode cX11_count 109 = .ok (.aload_n 0, 1) := by decide +kernel
theorem dX11_count_110 : decode cX11_count 110 = .ok (.getfield 34, 3) := by decide +kernel
theorem dX11_count_113 : decode cX11_count 113 = .ok (.aload_n 0, 1) := by decide +kernel
theorem dX11_count_114 : decode cX11_count 114 = .ok (.getfield 27, 3) := by decide +kernel
theorem dX11_count_117 : decode cX11_count 117 = .ok (.invokevirtual 316, 3) := by decide +kernel
theorem dX11_count_120 : decode cX11_count 120 = .ok (.invokestatic 232, 3) := by decide +kernel
theorem dX11_count_123 : decode cX11_count 123 = .ok (.ireturn, 1) := by decide +kernel
theorem dX11_count_124 : decode cX11_count 124 = .ok (.aload_n 0, 1) := by decide +kernel
theorem dX11_count_125 : decode cX11_count 125 = .ok (.getfield 27, 3) := by decide +kernel
theorem dX11_count_128 : decode cX11_count 128 = .ok (.getfield 264, 3) := by decide +kernel
theorem dX11_count_131 : decode cX11_count 131 = .ok (.ireturn, 1) := by decide +kernel
theorem dX11_count_132 : decode cX11_count 132 = .ok (.aload_n 0, 1) := by decide +kernel
theorem dX11_count_133 : decode cX11_count 133 = .ok (.getfield 27, 3) := by decide +kernel
theorem dX11_count_136 : decode cX11_count 136 = .ok (.invokevirtual 380, 3) := by decide +kernel
theorem dX11_count_139 : decode cX11_count 139 = .ok (.ireturn, 1) := by decide +kernel
theorem dX11_count_140 : decode cX11_count 140 = .ok (.aload_n 0, 1) := by decide +kernel
theorem dX11_count_141 : decode cX11_count 141 = .ok (.getfield 87, 3) := by decide +kernel
theorem dX11_count_144 : decode cX11_count 144 = .ok (.ireturn, 1) := by decide +kernel
theorem dX11_count_145 : decode cX11_count 145 = .ok (.aload_n 0, 1) := by decide +kernel
theorem dX11_count_146 : decode cX11_count 146 = .ok (.getfield 44, 3) := by decide +kernel
theorem dX11_count_149 : decode cX11_count 149 = .ok (.getfield 383, 3) := by decide +kernel
theorem dX11_count_152 : decode cX11_count 152 = .ok (.ireturn, 1) := by decide +kernel
theorem dX11_count_153 : decode cX11_count 153 = .ok (.aload_n 0, 1) := by decide +kernel
theorem dX11_count_154 : decode cX11_count 154 = .ok (.getfield 79, 3) := by decide +kernel
theorem dX11_count_157 : decode cX11_count 157 = .ok (.getfield 115, 3) := by decide +kernel
theorem dX11_count_160 : decode cX11_count 160 = .ok (.ireturn, 1) := by decide +kernel
theorem dX11_count_161 : decode cX11_count 161 = .ok (.aload_n 0, 1) := by decide +kernel
theorem dX11_count_162 : decode cX11_count 162 = .ok (.getfield 44, 3) := by decide +kernel
theorem dX11_count_165 : decode cX11_count 165 = .ok (.invokevirtual 384, 3) := by decide +kernel
theorem dX11_count_168 : decode cX11_count 168 = .ok (.ireturn, 1) := by decide +kernel
theorem dX11_count_169 : decode cX11_count 169 = .ok (.iconst (-1), 1) := by decide +kernel
theorem dX11_count_170 : decode cX11_count 170 = .ok (.ireturn, 1) := by decide +kernel
theorem dX11_isMan_0 : decode cX11_isMan 0 = .ok (.iload_n 1, 1) := by decide +kernel
theorem dX11_isMan_1 : decode cX11_isMan 1 = .ok (.ifCond .lt 18, 3) := by decide +kernel
theorem dX11_isMan_4 : decode cX11_isMan 4 = .ok (.iload_n 1, 1) := by decide +kernel
theorem dX11_isMan_5 : decode cX11_isMan 5 = .ok (.aload_n 0, 1) := by decide +kernel
theorem dX11_isMan_6 : decode cX11_isMan 6 = .ok (.getfield 27, 3) := by decide +kernel
theorem dX11_isMan_9 : decode cX11_isMan 9 = .ok (.getfield 283, 3) := by decide +kernel
theorem dX11_isMan_12 : decode cX11_isMan 12 = .ok (.if_icmp .ge 7, 3) := by decide +kernel
theorem dX11_isMan_15 : decode cX11_isMan 15 = .ok (.iconst 1, 1) := by decide +kernel
theorem dX11_isMan_16 : decode cX11_isMan 16 = .ok (.goto 4, 3) := by decide +kernel
theorem dX11_isMan_19 : decode cX11_isMan 19 = .ok (.iconst 0, 1) := by decide +kernel
theorem dX11_isMan_20 : decode cX11_isMan 20 = .ok (.ireturn, 1) := by decide +kernel
theorem dX11_areTwo_0 : decode cX11_areTwo 0 = .ok (.aload_n 0, 1) := by decide +kernel
theorem dX11_areTwo_1 : decode cX11_areTwo 1 = .ok (.iload_n 1, 1) := by decide +kernel
theorem dX11_areTwo_2 : decode cX11_areTwo 2 = .ok (.invokevirtual 118, 3) := by decide +kernel
theorem dX11_areTwo_5 : decode cX11_areTwo 5 = .ok (.ifCond .eq 20, 3) := by decide +kernel
theorem dX11_areTwo_8 : decode cX11_areTwo 8 = .ok (.aload_n 0, 1) := by decide +kernel
theorem dX11_areTwo_9 : decode cX11_areTwo 9 = .ok (.iload_n 2, 1) := by decide +kernel
theorem dX11_areTwo_10 : decode cX11_areTwo 10 = .ok (.invokevirtual 118, 3) := by decide +kernel
theorem dX11_areTwo_13 : decode cX11_areTwo 13 = .ok (.ifCond .eq 12, 3) := by decide +kernel
theorem dX11_areTwo_16 : decode cX11_areTwo 16 = .ok (.iload_n 1, 1) := by decide +kernel
theorem dX11_areTwo_17 : decode cX11_areTwo 17 = .ok (.iload_n 2, 1) := by decide +kernel
theorem dX11_areTwo_18 : decode cX11_areTwo 18 = .ok (.if_icmp .eq 7, 3) := by decide +kernel
theorem dX11_areTwo_21 : decode cX11_areTwo 21 = .ok (.iconst 1, 1) := by decide +kernel
theorem dX11_areTwo_22 : decode cX11_areTwo 22 = .ok (.goto 4, 3) := by decide +kernel
theorem dX11_areTwo_25 : decode cX11_areTwo 25 = .ok (.iconst 0, 1) := by decide +kernel
theorem dX11_areTwo_26 : decode cX11_areTwo 26 = .ok (.ireturn, 1) := by decide +kernel
theorem dX11_at_0 : decode cX11_at 0 = .ok (.iload_n 1, 1) := by decide +kernel
theorem dX11_at_1 : decode cX11_at 1 = .ok (.ifCond .lt 15, 3) := by decide +kernel
theorem dX11_at_4 : decode cX11_at 4 = .ok (.iload_n 1, 1) := by decide +kernel
theorem dX11_at_5 : decode cX11_at 5 = .ok (.aload_n 0, 1) := by decide +kernel
theorem dX11_at_6 : decode cX11_at 6 = .ok (.arraylength, 1) := by decide +kernel
theorem dX11_at_7 : decode cX11_at 7 = .ok (.if_icmp .ge 9, 3) := by decide +kernel
theorem dX11_at_10 : decode cX11_at 10 = .ok (.aload_n 0, 1) := by decide +kernel
theorem dX11_at_11 : decode cX11_at 11 = .ok (.iload_n 1, 1) := by decide +kernel
theorem dX11_at_12 : decode cX11_at 12 = .ok (.iaload, 1) := by decide +kernel
theorem dX11_at_13 : decode cX11_at 13 = .ok (.goto 4, 3) := by decide +kernel
theorem dX11_at_16 : decode cX11_at 16 = .ok (.iconst 0, 1) := by decide +kernel
theorem dX11_at_17 : decode cX11_at 17 = .ok (.ireturn, 1) := by decide +kernel
theorem dX11_put_0 : decode cX11_put 0 = .ok (.iload_n 1, 1) := by decide +kernel
theorem dX11_put_1 : decode cX11_put 1 = .ok (.ifCond .lt 13, 3) := by decide +kernel
theorem dX11_put_4 : decode cX11_put 4 = .ok (.iload_n 1, 1) := by decide +kernel
theorem dX11_put_5 : decode cX11_put 5 = .ok (.aload_n 0, 1) := by decide +kernel
theorem dX11_put_6 : decode cX11_put 6 = .ok (.arraylength, 1) := by decide +kernel
theorem dX11_put_7 : decode cX11_put 7 = .ok (.if_icmp .ge 7, 3) := by decide +kernel
theorem dX11_put_10 : decode cX11_put 10 = .ok (.aload_n 0, 1) := by decide +kernel
theorem dX11_put_11 : decode cX11_put 11 = .ok (.iload_n 1, 1) := by decide +kernel
theorem dX11_put_12 : decode cX11_put 12 = .ok (.iload_n 2, 1) := by decide +kernel
theorem dX11_put_13 : decode cX11_put 13 = .ok (.iastore, 1) := by decide +kernel
theorem dX11_put_14 : decode cX11_put 14 = .ok (.return_, 1) := by decide +kernel
theorem dX11_copyRow_0 : decode cX11_copyRow 0 = .ok (.aload_n 0, 1) := by decide +kernel
theorem dX11_copyRow_1 : decode cX11_copyRow 1 = .ok (.iconst 0, 1) := by decide +kernel
theorem dX11_copyRow_2 : decode cX11_copyRow 2 = .ok (.aload_n 1, 1) := by decide +kernel
theorem dX11_copyRow_3 : decode cX11_copyRow 3 = .ok (.iconst 0, 1) := by decide +kernel
theorem dX11_copyRow_4 : decode cX11_copyRow 4 = .ok (.aload_n 0, 1) := by decide +kernel
theorem dX11_copyRow_5 : decode cX11_copyRow 5 = .ok (.arraylength, 1) := by decide +kernel
theorem dX11_copyRow_6 : decode cX11_copyRow 6 = .ok (.aload_n 1, 1) := by decide +kernel
theorem dX11_copyRow_7 : decode cX11_copyRow 7 = .ok (.arraylength, 1) := by decide +kernel
theorem dX11_copyRow_8 : decode cX11_copyRow 8 = .ok (.invokestatic 356, 3) := by decide +kernel
theorem dX11_copyRow_11 : decode cX11_copyRow 11 = .ok (.invokestatic 387, 3) := by decide +kernel
theorem dX11_copyRow_14 : decode cX11_copyRow 14 = .ok (.return_, 1) := by decide +kernel
theorem dX11_apart_0 : decode cX11_apart 0 = .ok (.iload_n 0, 1) := by decide +kernel
theorem dX11_apart_1 : decode cX11_apart 1 = .ok (.iload_n 2, 1) := by decide +kernel
theorem dX11_apart_2 : decode cX11_apart 2 = .ok (.isub, 1) := by decide +kernel
theorem dX11_apart_3 : decode cX11_apart 3 = .ok (.invokestatic 393, 3) := by decide +kernel
theorem dX11_apart_6 : decode cX11_apart 6 = .ok (.iload_n 1, 1) := by decide +kernel
theorem dX11_apart_7 : decode cX11_apart 7 = .ok (.iload_n 3, 1) := by decide +kernel
theorem dX11_apart_8 : decode cX11_apart 8 = .ok (.isub, 1) := by decide +kernel
theorem dX11_apart_9 : decode cX11_apart 9 = .ok (.invokestatic 393, 3) := by decide +kernel
theorem dX11_apart_12 : decode cX11_apart 12 = .ok (.iadd, 1) := by decide +kernel
theorem dX11_apart_13 : decode cX11_apart 13 = .ok (.ireturn, 1) := by decide +kernel
theorem dX11_streetOf_0 : decode cX11_streetOf 0 = .ok (.iload_n 2, 1) := by decide +kernel
theorem dX11_streetOf_1 : decode cX11_streetOf 1 = .ok (.iconst 4, 1) := by decide +kernel
theorem dX11_streetOf_2 : decode cX11_streetOf 2 = .ok (.if_icmp .ne 9, 3) := by decide +kernel
theorem dX11_streetOf_5 : decode cX11_streetOf 5 = .ok (.iload_n 0, 1) := by decide +kernel
theorem dX11_streetOf_6 : decode cX11_streetOf 6 = .ok (.iconst 1, 1) := by decide +kernel
theorem dX11_streetOf_7 : decode cX11_streetOf 7 = .ok (.isub, 1) := by decide +kernel
theorem dX11_streetOf_8 : decode cX11_streetOf 8 = .ok (.goto 4, 3) := by decide +kernel
theorem dX11_streetOf_11 : decode cX11_streetOf 11 = .ok (.iload_n 0, 1) := by decide +kernel
theorem dX11_streetOf_12 : decode cX11_streetOf 12 = .ok (.istore_n 3, 1) := by decide +kernel
theorem dX11_streetOf_13 : decode cX11_streetOf 13 = .ok (.iload_n 2, 1) := by decide +kernel
theorem dX11_streetOf_14 : decode cX11_streetOf 14 = .ok (.iconst 3, 1) := by decide +kernel
theorem dX11_streetOf_15 : decode cX11_streetOf 15 = .ok (.if_icmp .ne 9, 3) := by decide +kernel
theorem dX11_streetOf_18 : decode cX11_streetOf 18 = .ok (.iload_n 1, 1) := by decide +kernel
theorem dX11_streetOf_19 : decode cX11_streetOf 19 = .ok (.iconst 1, 1) := by decide +kernel
theorem dX11_streetOf_20 : decode cX11_streetOf 20 = .ok (.isub, 1) := by decide +kernel
theorem dX11_streetOf_21 : decode cX11_streetOf 21 = .ok (.goto 4, 3) := by decide +kernel
theorem dX11_streetOf_24 : decode cX11_streetOf 24 = .ok (.iload_n 1, 1) := by decide +kernel
theorem dX11_streetOf_25 : decode cX11_streetOf 25 = .ok (.istore 4, 2) := by decide +kernel
theorem dX11_streetOf_27 : decode cX11_streetOf 27 = .ok (.iconst 2, 1) := by decide +kernel
theorem dX11_streetOf_28 : decode cX11_streetOf 28 = .ok (.iload 4, 2) := by decide +kernel
theorem dX11_streetOf_30 : decode cX11_streetOf 30 = .ok (.bipush 12, 2) := by decide +kernel
theorem dX11_streetOf_32 : decode cX11_streetOf 32 = .ok (.imul, 1) := by decide +kernel
theorem dX11_streetOf_33 : decode cX11_streetOf 33 = .ok (.iload_n 3, 1) := by decide +kernel
theorem dX11_streetOf_34 : decode cX11_streetOf 34 = .ok (.iadd, 1) := by decide +kernel
theorem dX11_streetOf_35 : decode cX11_streetOf 35 = .ok (.imul, 1) := by decide +kernel
theorem dX11_streetOf_36 : decode cX11_streetOf 36 = .ok (.iload_n 2, 1) := by decide +kernel
theorem dX11_streetOf_37 : decode cX11_streetOf 37 = .ok (.iconst 1, 1) := by decide +kernel
theorem dX11_streetOf_38 : decode cX11_streetOf 38 = .ok (.iand, 1) := by decide +kernel
theorem dX11_streetOf_39 : decode cX11_streetOf 39 = .ok (.iadd, 1) := by decide +kernel
theorem dX11_streetOf_40 : decode cX11_streetOf 40 = .ok (.ireturn, 1) := by decide +kernel
theorem dX11_pieceOf_0 : decode cX11_pieceOf 0 = .ok (.iload_n 0, 1) := by decide +kernel
theorem dX11_pieceOf_1 : decode cX11_pieceOf 1 = .ok (.bipush 60, 2) := by decide +kernel
theorem dX11_pieceOf_3 : decode cX11_pieceOf 3 = .ok (.imul, 1) := by decide +kernel
theorem dX11_pieceOf_4 : decode cX11_pieceOf 4 = .ok (.iload_n 1, 1) := by decide +kernel
theorem dX11_pieceOf_5 : decode cX11_pieceOf 5 = .ok (.iadd, 1) := by decide +kernel
theorem dX11_pieceOf_6 : decode cX11_pieceOf 6 = .ok (.iconst 1, 1) := by decide +kernel
theorem dX11_pieceOf_7 : decode cX11_pieceOf 7 = .ok (.iadd, 1) := by decide +kernel
theorem dX11_pieceOf_8 : decode cX11_pieceOf 8 = .ok (.ireturn, 1) := by decide +kernel
theorem dX11_ownerOf_0 : decode cX11_ownerOf 0 = .ok (.iload_n 0, 1) := by decide +kernel
theorem dX11_ownerOf_1 : decode cX11_ownerOf 1 = .ok (.iconst 1, 1) := by decide +kernel
theorem dX11_ownerOf_2 : decode cX11_ownerOf 2 = .ok (.isub, 1) := by decide +kernel
theorem dX11_ownerOf_3 : decode cX11_ownerOf 3 = .ok (.bipush 60, 2) := by decide +kernel
theorem dX11_ownerOf_5 : decode cX11_ownerOf 5 = .ok (.idiv, 1) := by decide +kernel
theorem dX11_ownerOf_6 : decode cX11_ownerOf 6 = .ok (.ireturn, 1) := by decide +kernel
theorem dX11_lot_0 : decode cX11_lot 0 = .ok (.iload_n 1, 1) := by decide +kernel
theorem dX11_lot_1 : decode cX11_lot 1 = .ok (.bipush 28, 2) := by decide +kernel
theorem dX11_lot_3 : decode cX11_lot 3 = .ok (.invokestatic 396, 3) := by decide +kernel
theorem dX11_lot_6 : decode cX11_lot 6 = .ok (.iload_n 2, 1) := by decide +kernel
theorem dX11_lot_7 : decode cX11_lot 7 = .ok (.invokestatic 396, 3) := by decide +kernel
theorem dX11_lot_10 : decode cX11_lot 10 = .ok (.iconst 1, 1) := by decide +kernel
theorem dX11_lot_11 : decode cX11_lot 11 = .ok (.iushr, 1) := by decide +kernel
theorem dX11_lot_12 : decode cX11_lot 12 = .ok (.istore_n 3, 1) := by decide +kernel
theorem dX11_lot_13 : decode cX11_lot 13 = .ok (.iload_n 0, 1) := by decide +kernel
theorem dX11_lot_14 : decode cX11_lot 14 = .ok (.ifCond .le 9, 3) := by decide +kernel
theorem dX11_lot_17 : decode cX11_lot 17 = .ok (.iload_n 3, 1) := by decide +kernel
theorem dX11_lot_18 : decode cX11_lot 18 = .ok (.iload_n 0, 1) := by decide +kernel
theorem dX11_lot_19 : decode cX11_lot 19 = .ok (.irem, 1) := by decide +kernel
theorem dX11_lot_20 : decode cX11_lot 20 = .ok (.goto 4, 3) := by decide +kernel
theorem dX11_lot_23 : decode cX11_lot 23 = .ok (.iconst 0, 1) := by decide +kernel
theorem dX11_lot_24 : decode cX11_lot 24 = .ok (.ireturn, 1) := by decide +kernel
theorem dX11_stir_0 : decode cX11_stir 0 = .ok (.iload_n 0, 1) := by decide +kernel
theorem dX11_stir_1 : decode cX11_stir 1 = .ok (.iload_n 1, 1) := by decide +kernel
theorem dX11_stir_2 : decode cX11_stir 2 = .ok (.ixor, 1) := by decide +kernel
theorem dX11_stir_3 : decode cX11_stir 3 = .ok (.ldc_w 399, 3) := by decide +kernel
theorem dX11_stir_6 : decode cX11_stir 6 = .ok (.imul, 1) := by decide +kernel
theorem dX11_stir_7 : decode cX11_stir 7 = .ok (.sipush 12345, 3) := by decide +kernel
theorem dX11_stir_10 : decode cX11_stir 10 = .ok (.iadd, 1) := by decide +kernel
theorem dX11_stir_11 : decode cX11_stir 11 = .ok (.istore_n 2, 1) := by decide +kernel
theorem dX11_stir_12 : decode cX11_stir 12 = .ok (.iload_n 2, 1) := by decide +kernel
theorem dX11_stir_13 : decode cX11_stir 13 = .ok (.iload_n 2, 1) := by decide +kernel
theorem dX11_stir_14 : decode cX11_stir 14 = .ok (.bipush 15, 2) := by decide +kernel
theorem dX11_stir_16 : decode cX11_stir 16 = .ok (.iushr, 1) := by decide +kernel
theorem dX11_stir_17 : decode cX11_stir 17 = .ok (.ixor, 1) := by decide +kernel
theorem dX11_stir_18 : decode cX11_stir 18 = .ok (.ireturn, 1) := by decide +kernel
theorem dJ6_bitCount_0f7a4_0 : decode cJ6_bitCount_0f7a4 0 = .ok (.iload_n 0, 1) := by decide +kernel
theorem dJ6_bitCount_0f7a4_1 : decode cJ6_bitCount_0f7a4 1 = .ok (.iload_n 0, 1) := by decide +kernel
theorem dJ6_bitCount_0f7a4_2 : decode cJ6_bitCount_0f7a4 2 = .ok (.iconst 1, 1) := by decide +kernel
theorem dJ6_bitCount_0f7a4_3 : decode cJ6_bitCount_0f7a4 3 = .ok (.iushr, 1) := by decide +kernel
theorem dJ6_bitCount_0f7a4_4 : decode cJ6_bitCount_0f7a4 4 = .ok (.ldc_w 265, 3) := by decide +kernel
theorem dJ6_bitCount_0f7a4_7 : decode cJ6_bitCount_0f7a4 7 = .ok (.iand, 1) := by decide +kernel
theorem dJ6_bitCount_0f7a4_8 : decode cJ6_bitCount_0f7a4 8 = .ok (.isub, 1) := by decide +kernel
theorem dJ6_bitCount_0f7a4_9 : decode cJ6_bitCount_0f7a4 9 = .ok (.istore_n 0, 1) := by decide +kernel
theorem dJ6_bitCount_0f7a4_10 : decode cJ6_bitCount_0f7a4 10 = .ok (.iload_n 0, 1) := by decide +kernel
theorem dJ6_bitCount_0f7a4_11 : decode cJ6_bitCount_0f7a4 11 = .ok (.ldc_w 266, 3) := by decide +kernel
theorem dJ6_bitCount_0f7a4_14 : decode cJ6_bitCount_0f7a4 14 = .ok (.iand, 1) := by decide +kernel
theorem dJ6_bitCount_0f7a4_15 : decode cJ6_bitCount_0f7a4 15 = .ok (.iload_n 0, 1) := by decide +kernel
theorem dJ6_bitCount_0f7a4_16 : decode cJ6_bitCount_0f7a4 16 = .ok (.iconst 2, 1) := by decide +kernel
theorem dJ6_bitCount_0f7a4_17 : decode cJ6_bitCount_0f7a4 17 = .ok (.iushr, 1) := by decide +kernel
theorem dJ6_bitCount_0f7a4_18 : decode cJ6_bitCount_0f7a4 18 = .ok (.ldc_w 266, 3) := by decide +kernel
theorem dJ6_bitCount_0f7a4_21 : decode cJ6_bitCount_0f7a4 21 = .ok (.iand, 1) := by decide +kernel
theorem dJ6_bitCount_0f7a4_22 : decode cJ6_bitCount_0f7a4 22 = .ok (.iadd, 1) := by decide +kernel
theorem dJ6_bitCount_0f7a4_23 : decode cJ6_bitCount_0f7a4 23 = .ok (.istore_n 0, 1) := by decide +kernel
theorem dJ6_bitCount_0f7a4_24 : decode cJ6_bitCount_0f7a4 24 = .ok (.iload_n 0, 1) := by decide +kernel
theorem dJ6_bitCount_0f7a4_25 : decode cJ6_bitCount_0f7a4 25 = .ok (.iload_n 0, 1) := by decide +kernel
theorem dJ6_bitCount_0f7a4_26 : decode cJ6_bitCount_0f7a4 26 = .ok (.iconst 4, 1) := by decide +kernel
theorem dJ6_bitCount_0f7a4_27 : decode cJ6_bitCount_0f7a4 27 = .ok (.iushr, 1) := by decide +kernel
theorem dJ6_bitCount_0f7a4_28 : decode cJ6_bitCount_0f7a4 28 = .ok (.iadd, 1) := by decide +kernel
theorem dJ6_bitCount_0f7a4_29 : decode cJ6_bitCount_0f7a4 29 = .ok (.ldc_w 267, 3) := by decide +kernel
theorem dJ6_bitCount_0f7a4_32 : decode cJ6_bitCount_0f7a4 32 = .ok (.iand, 1) := by decide +kernel
theorem dJ6_bitCount_0f7a4_33 : decode cJ6_bitCount_0f7a4 33 = .ok (.istore_n 0, 1) := by decide +kernel
theorem dJ6_bitCount_0f7a4_34 : decode cJ6_bitCount_0f7a4 34 = .ok (.iload_n 0, 1) := by decide +kernel
theorem dJ6_bitCount_0f7a4_35 : decode cJ6_bitCount_0f7a4 35 = .ok (.iload_n 0, 1) := by decide +kernel
theorem dJ6_bitCount_0f7a4_36 : decode cJ6_bitCount_0f7a4 36 = .ok (.bipush 8, 2) := by decide +kernel
theorem dJ6_bitCount_0f7a4_38 : decode cJ6_bitCount_0f7a4 38 = .ok (.iushr, 1) := by decide +kernel
theorem dJ6_bitCount_0f7a4_39 : decode cJ6_bitCount_0f7a4 39 = .ok (.iadd, 1) := by decide +kernel
theorem dJ6_bitCount_0f7a4_40 : decode cJ6_bitCount_0f7a4 40 = .ok (.istore_n 0, 1) := by decide +kernel
theorem dJ6_bitCount_0f7a4_41 : decode cJ6_bitCount_0f7a4 41 = .ok (.iload_n 0, 1) := by decide +kernel
theorem dJ6_bitCount_0f7a4_42 : decode cJ6_bitCount_0f7a4 42 = .ok (.iload_n 0, 1) := by decide +kernel
theorem dJ6_bitCount_0f7a4_43 : decode cJ6_bitCount_0f7a4 43 = .ok (.bipush 16, 2) := by decide +kernel
theorem dJ6_bitCount_0f7a4_45 : decode cJ6_bitCount_0f7a4 45 = .ok (.iushr, 1) := by decide +kernel
theorem dJ6_bitCount_0f7a4_46 : decode cJ6_bitCount_0f7a4 46 = .ok (.iadd, 1) := by decide +kernel
theorem dJ6_bitCount_0f7a4_47 : decode cJ6_bitCount_0f7a4 47 = .ok (.istore_n 0, 1) := by decide +kernel
theorem dJ6_bitCount_0f7a4_48 : decode cJ6_bitCount_0f7a4 48 = .ok (.iload_n 0, 1) := by decide +kernel
theorem dJ6_bitCount_0f7a4_49 : decode cJ6_bitCount_0f7a4 49 = .ok (.bipush 63, 2) := by decide +kernel
theorem dJ6_bitCount_0f7a4_51 : decode cJ6_bitCount_0f7a4 51 = .ok (.iand, 1) := by decide +kernel
theorem dJ6_bitCount_0f7a4_52 : decode cJ6_bitCount_0f7a4 52 = .ok (.ireturn, 1) := by decide +kernel
theorem dJ9_abs_0f7a4_0 : decode cJ9_abs_0f7a4 0 = .ok (.iload_n 0, 1) := by decide +kernel
theorem dJ9_abs_0f7a4_1 : decode cJ9_abs_0f7a4 1 = .ok (.ifCond .ge 8, 3) := by decide +kernel
theorem dJ9_abs_0f7a4_4 : decode cJ9_abs_0f7a4 4 = .ok (.iload_n 0, 1) := by decide +kernel
theorem dJ9_abs_0f7a4_5 : decode cJ9_abs_0f7a4 5 = .ok (.ineg, 1) := by decide +kernel
theorem dJ9_abs_0f7a4_6 : decode cJ9_abs_0f7a4 6 = .ok (.goto 4, 3) := by decide +kernel
theorem dJ9_abs_0f7a4_9 : decode cJ9_abs_0f7a4 9 = .ok (.iload_n 0, 1) := by decide +kernel
theorem dJ9_abs_0f7a4_10 : decode cJ9_abs_0f7a4 10 = .ok (.ireturn, 1) := by decide +kernel
theorem dJ9_max_7cf53_0 : decode cJ9_max_7cf53 0 = .ok (.iload_n 0, 1) := by decide +kernel
theorem dJ9_max_7cf53_1 : decode cJ9_max_7cf53 1 = .ok (.iload_n 1, 1) := by decide +kernel
theorem dJ9_max_7cf53_2 : decode cJ9_max_7cf53 2 = .ok (.if_icmp .lt 7, 3) := by decide +kernel
theorem dJ9_max_7cf53_5 : decode cJ9_max_7cf53 5 = .ok (.iload_n 0, 1) := by decide +kernel
theorem dJ9_max_7cf53_6 : decode cJ9_max_7cf53 6 = .ok (.goto 4, 3) := by decide +kernel
theorem dJ9_max_7cf53_9 : decode cJ9_max_7cf53 9 = .ok (.iload_n 1, 1) := by decide +kernel
theorem dJ9_max_7cf53_10 : decode cJ9_max_7cf53 10 = .ok (.ireturn, 1) := by decide +kernel
theorem dJ9_min_7cf53_0 : decode cJ9_min_7cf53 0 = .ok (.iload_n 0, 1) := by decide +kernel
theorem dJ9_min_7cf53_1 : decode cJ9_min_7cf53 1 = .ok (.iload_n 1, 1) := by decide +kernel
theorem dJ9_min_7cf53_2 : decode cJ9_min_7cf53 2 = .ok (.if_icmp .gt 7, 3) := by decide +kernel
theorem dJ9_min_7cf53_5 : decode cJ9_min_7cf53 5 = .ok (.iload_n 0, 1) := by decide +kernel
theorem dJ9_min_7cf53_6 : decode cJ9_min_7cf53 6 = .ok (.goto 4, 3) := by decide +kernel
theorem dJ9_min_7cf53_9 : decode cJ9_min_7cf53 9 = .ok (.iload_n 1, 1) := by decide +kernel
theorem dJ9_min_7cf53_10 : decode cJ9_min_7cf53 10 = .ok (.ireturn, 1) := by decide +kernel
theorem dJ0_length_8abf5_0 : decode cJ0_length_8abf5 0 = .ok (.aload_n 0, 1) := by decide +kernel
theorem dJ0_length_8abf5_1 : decode cJ0_length_8abf5 1 = .ok (.getfield 9, 3) := by decide +kernel
theorem dJ0_length_8abf5_4 : decode cJ0_length_8abf5 4 = .ok (.arraylength, 1) := by decide +kernel
theorem dJ0_length_8abf5_5 : decode cJ0_length_8abf5 5 = .ok (.aload_n 0, 1) := by decide +kernel
theorem dJ0_length_8abf5_6 : decode cJ0_length_8abf5 6 = .ok (.invokevirtual 335, 3) := by decide +kernel
theorem dJ0_length_8abf5_9 : decode cJ0_length_8abf5 9 = .ok (.ishr, 1) := by decide +kernel
theorem dJ0_length_8abf5_10 : decode cJ0_length_8abf5 10 = .ok (.ireturn, 1) := by decide +kernel
theorem dJ0_charAt_5068e_0 : decode cJ0_charAt_5068e 0 = .ok (.aload_n 0, 1) := by decide +kernel
theorem dJ0_charAt_5068e_1 : decode cJ0_charAt_5068e 1 = .ok (.invokevirtual 492, 3) := by decide +kernel
theorem dJ0_charAt_5068e_4 : decode cJ0_charAt_5068e 4 = .ok (.ifCond .eq 12, 3) := by decide +kernel
theorem dJ0_charAt_5068e_7 : decode cJ0_charAt_5068e 7 = .ok (.aload_n 0, 1) := by decide +kernel
theorem dJ0_charAt_5068e_8 : decode cJ0_charAt_5068e 8 = .ok (.getfield 9, 3) := by decide +kernel
theorem dJ0_charAt_5068e_11 : decode cJ0_charAt_5068e 11 = .ok (.iload_n 1, 1) := by decide +kernel
theorem dJ0_charAt_5068e_12 : decode cJ0_charAt_5068e 12 = .ok (.invokestatic 495, 3) := by decide +kernel
theorem dJ0_charAt_5068e_15 : decode cJ0_charAt_5068e 15 = .ok (.ireturn, 1) := by decide +kernel
theorem dJ0_charAt_5068e_16 : decode cJ0_charAt_5068e 16 = .ok (.aload_n 0, 1) := by decide +kernel
theorem dJ0_charAt_5068e_17 : decode cJ0_charAt_5068e 17 = .ok (.getfield 9, 3) := by decide +kernel
theorem dJ0_charAt_5068e_20 : decode cJ0_charAt_5068e 20 = .ok (.iload_n 1, 1) := by decide +kernel
theorem dJ0_charAt_5068e_21 : decode cJ0_charAt_5068e 21 = .ok (.invokestatic 498, 3) := by decide +kernel
theorem dJ0_charAt_5068e_24 : decode cJ0_charAt_5068e 24 = .ok (.ireturn, 1) := by decide +kernel
theorem dJ0_coder_7d493_0 : decode cJ0_coder_7d493 0 = .ok (.getstatic 38, 3) := by decide +kernel
theorem dJ0_coder_7d493_3 : decode cJ0_coder_7d493 3 = .ok (.ifCond .eq 10, 3) := by decide +kernel
theorem dJ0_coder_7d493_6 : decode cJ0_coder_7d493 6 = .ok (.aload_n 0, 1) := by decide +kernel
theorem dJ0_coder_7d493_7 : decode cJ0_coder_7d493 7 = .ok (.getfield 15, 3) := by decide +kernel
theorem dJ0_coder_7d493_10 : decode cJ0_coder_7d493 10 = .ok (.goto 4, 3) := by decide +kernel
theorem dJ0_coder_7d493_13 : decode cJ0_coder_7d493 13 = .ok (.iconst 1, 1) := by decide +kernel
theorem dJ0_coder_7d493_14 : decode cJ0_coder_7d493 14 = .ok (.ireturn, 1) := by decide +kernel
theorem dJ0_isLatin1_aae02_0 : decode cJ0_isLatin1_aae02 0 = .ok (.getstatic 38, 3) := by decide +kernel
theorem dJ0_isLatin1_aae02_3 : decode cJ0_isLatin1_aae02 3 = .ok (.ifCond .eq 14, 3) := by decide +kernel
theorem dJ0_isLatin1_aae02_6 : decode cJ0_isLatin1_aae02 6 = .ok (.aload_n 0, 1) := by decide +kernel
theorem dJ0_isLatin1_aae02_7 : decode cJ0_isLatin1_aae02 7 = .ok (.getfield 15, 3) := by decide +kernel
theorem dJ0_isLatin1_aae02_10 : decode cJ0_isLatin1_aae02 10 = .ok (.ifCond .ne 7, 3) := by decide +kernel
theorem dJ0_isLatin1_aae02_13 : decode cJ0_isLatin1_aae02 13 = .ok (.iconst 1, 1) := by decide +kernel
theorem dJ0_isLatin1_aae02_14 : decode cJ0_isLatin1_aae02 14 = .ok (.goto 4, 3) := by decide +kernel
theorem dJ0_isLatin1_aae02_17 : decode cJ0_isLatin1_aae02 17 = .ok (.iconst 0, 1) := by decide +kernel
theorem dJ0_isLatin1_aae02_18 : decode cJ0_isLatin1_aae02 18 = .ok (.ireturn, 1) := by decide +kernel
theorem dJ0_checkIndex_df160_0 : decode cJ0_checkIndex_df160 0 = .ok (.iload_n 0, 1) := by decide +kernel
theorem dJ0_checkIndex_df160_1 : decode cJ0_checkIndex_df160 1 = .ok (.iload_n 1, 1) := by decide +kernel
theorem dJ0_checkIndex_df160_2 : decode cJ0_checkIndex_df160 2 = .ok (.getstatic 1053, 3) := by decide +kernel
theorem dJ0_checkIndex_df160_5 : decode cJ0_checkIndex_df160 5 = .ok (.invokestatic 1059, 3) := by decide +kernel
theorem dJ0_checkIndex_df160_8 : decode cJ0_checkIndex_df160 8 = .ok (.pop, 1) := by decide +kernel
theorem dJ0_checkIndex_df160_9 : decode cJ0_checkIndex_df160 9 = .ok (.return_, 1) := by decide +kernel
theorem dJ1_charAt_3b067_0 : decode cJ1_charAt_3b067 0 = .ok (.iload_n 1, 1) := by decide +kernel
theorem dJ1_charAt_3b067_1 : decode cJ1_charAt_3b067 1 = .ok (.aload_n 0, 1) := by decide +kernel
theorem dJ1_charAt_3b067_2 : decode cJ1_charAt_3b067 2 = .ok (.arraylength, 1) := by decide +kernel
theorem dJ1_charAt_3b067_3 : decode cJ1_charAt_3b067 3 = .ok (.invokestatic 9, 3) := by decide +kernel
theorem dJ1_charAt_3b067_6 : decode cJ1_charAt_3b067 6 = .ok (.aload_n 0, 1) := by decide +kernel
theorem dJ1_charAt_3b067_7 : decode cJ1_charAt_3b067 7 = .ok (.iload_n 1, 1) := by decide +kernel
theorem dJ1_charAt_3b067_8 : decode cJ1_charAt_3b067 8 = .ok (.baload, 1) := by decide +kernel
theorem dJ1_charAt_3b067_9 : decode cJ1_charAt_3b067 9 = .ok (.sipush 255, 3) := by decide +kernel
theorem dJ1_charAt_3b067_12 : decode cJ1_charAt_3b067 12 = .ok (.iand, 1) := by decide +kernel
theorem dJ1_charAt_3b067_13 : decode cJ1_charAt_3b067 13 = .ok (.i2c, 1) := by decide +kernel
theorem dJ1_charAt_3b067_14 : decode cJ1_charAt_3b067 14 = .ok (.ireturn, 1) := by decide +kernel
theorem dJ2_getChar_3b067_0 : decode cJ2_getChar_3b067 0 = .ok (.getstatic 44, 3) := by decide +kernel
theorem dJ2_getChar_3b067_3 : decode cJ2_getChar_3b067 3 = .ok (.ifCond .ne 25, 3) := by decide +kernel
theorem dJ2_getChar_3b067_6 : decode cJ2_getChar_3b067 6 = .ok (.iload_n 1, 1) := by decide +kernel
theorem dJ2_getChar_3b067_7 : decode cJ2_getChar_3b067 7 = .ok (.ifCond .lt 11, 3) := by decide +kernel
theorem dJ2_getChar_3b067_10 : decode cJ2_getChar_3b067 10 = .ok (.iload_n 1, 1) := by decide +kernel
theorem dJ2_getChar_3b067_11 : decode cJ2_getChar_3b067 11 = .ok (.aload_n 0, 1) := by decide +kernel
theorem dJ2_getChar_3b067_12 : decode cJ2_getChar_3b067 12 = .ok (.invokestatic 48, 3) := by decide +kernel
theorem dJ2_getChar_3b067_15 : decode cJ2_getChar_3b067 15 = .ok (.if_icmp .lt 13, 3) := by decide +kernel
theorem dJ2_getChar_3b067_18 : decode cJ2_getChar_3b067 18 = .ok (.new 52, 3) := by decide +kernel
theorem dJ2_getChar_3b067_21 : decode cJ2_getChar_3b067 21 = .ok (.dup, 1) := by decide +kernel
theorem dJ2_getChar_3b067_22 : decode cJ2_getChar_3b067 22 = .ok (.ldc 54, 2) := by decide +kernel
theorem dJ2_getChar_3b067_24 : decode cJ2_getChar_3b067 24 = .ok (.invokespecial 56, 3) := by decide +kernel
theorem dJ2_getChar_3b067_27 : decode cJ2_getChar_3b067 27 = .ok (.athrow, 1) := by decide +kernel
theorem dJ2_getChar_3b067_28 : decode cJ2_getChar_3b067 28 = .ok (.iload_n 1, 1) := by decide +kernel
theorem dJ2_getChar_3b067_29 : decode cJ2_getChar_3b067 29 = .ok (.iconst 1, 1) := by decide +kernel
theorem dJ2_getChar_3b067_30 : decode cJ2_getChar_3b067 30 = .ok (.ishl, 1) := by decide +kernel
theorem dJ2_getChar_3b067_31 : decode cJ2_getChar_3b067 31 = .ok (.istore_n 1, 1) := by decide +kernel
theorem dJ2_getChar_3b067_32 : decode cJ2_getChar_3b067 32 = .ok (.aload_n 0, 1) := by decide +kernel
theorem dJ2_getChar_3b067_33 : decode cJ2_getChar_3b067 33 = .ok (.iload_n 1, 1) := by decide +kernel
theorem dJ2_getChar_3b067_34 : decode cJ2_getChar_3b067 34 = .ok (.iinc 1 1, 3) := by decide +kernel
theorem dJ2_getChar_3b067_37 : decode cJ2_getChar_3b067 37 = .ok (.baload, 1) := by decide +kernel
theorem dJ2_getChar_3b067_38 : decode cJ2_getChar_3b067 38 = .ok (.sipush 255, 3) := by decide +kernel
theorem dJ2_getChar_3b067_41 : decode cJ2_getChar_3b067 41 = .ok (.iand, 1) := by decide +kernel
theorem dJ2_getChar_3b067_42 : decode cJ2_getChar_3b067 42 = .ok (.getstatic 59, 3) := by decide +kernel
theorem dJ2_getChar_3b067_45 : decode cJ2_getChar_3b067 45 = .ok (.ishl, 1) := by decide +kernel
theorem dJ2_getChar_3b067_46 : decode cJ2_getChar_3b067 46 = .ok (.aload_n 0, 1) := by decide +kernel
theorem dJ2_getChar_3b067_47 : decode cJ2_getChar_3b067 47 = .ok (.iload_n 1, 1) := by decide +kernel
theorem dJ2_getChar_3b067_48 : decode cJ2_getChar_3b067 48 = .ok (.baload, 1) := by decide +kernel
theorem dJ2_getChar_3b067_49 : decode cJ2_getChar_3b067 49 = .ok (.sipush 255, 3) := by decide +kernel
theorem dJ2_getChar_3b067_52 : decode cJ2_getChar_3b067 52 = .ok (.iand, 1) := by decide +kernel
theorem dJ2_getChar_3b067_53 : decode cJ2_getChar_3b067 53 = .ok (.getstatic 63, 3) := by decide +kernel
theorem dJ2_getChar_3b067_56 : decode cJ2_getChar_3b067 56 = .ok (.ishl, 1) := by decide +kernel
theorem dJ2_getChar_3b067_57 : decode cJ2_getChar_3b067 57 = .ok (.ior, 1) := by decide +kernel
theorem dJ2_getChar_3b067_58 : decode cJ2_getChar_3b067 58 = .ok (.i2c, 1) := by decide +kernel
theorem dJ2_getChar_3b067_59 : decode cJ2_getChar_3b067 59 = .ok (.ireturn, 1) := by decide +kernel
theorem dJ2_length_9d52b_0 : decode cJ2_length_9d52b 0 = .ok (.aload_n 0, 1) := by decide +kernel
theorem dJ2_length_9d52b_1 : decode cJ2_length_9d52b 1 = .ok (.arraylength, 1) := by decide +kernel
theorem dJ2_length_9d52b_2 : decode cJ2_length_9d52b 2 = .ok (.iconst 1, 1) := by decide +kernel
theorem dJ2_length_9d52b_3 : decode cJ2_length_9d52b 3 = .ok (.ishr, 1) := by decide +kernel
theorem dJ2_length_9d52b_4 : decode cJ2_length_9d52b 4 = .ok (.ireturn, 1) := by decide +kernel
theorem dJ2_charAt_3b067_0 : decode cJ2_charAt_3b067 0 = .ok (.iload_n 1, 1) := by decide +kernel
theorem dJ2_charAt_3b067_1 : decode cJ2_charAt_3b067 1 = .ok (.aload_n 0, 1) := by decide +kernel
theorem dJ2_charAt_3b067_2 : decode cJ2_charAt_3b067 2 = .ok (.invokestatic 67, 3) := by decide +kernel
theorem dJ2_charAt_3b067_5 : decode cJ2_charAt_3b067 5 = .ok (.aload_n 0, 1) := by decide +kernel
theorem dJ2_charAt_3b067_6 : decode cJ2_charAt_3b067 6 = .ok (.iload_n 1, 1) := by decide +kernel
theorem dJ2_charAt_3b067_7 : decode cJ2_charAt_3b067 7 = .ok (.invokestatic 71, 3) := by decide +kernel
theorem dJ2_charAt_3b067_10 : decode cJ2_charAt_3b067 10 = .ok (.ireturn, 1) := by decide +kernel
theorem dJ2_checkIndex_2214a_0 : decode cJ2_checkIndex_2214a 0 = .ok (.iload_n 0, 1) := by decide +kernel
theorem dJ2_checkIndex_2214a_1 : decode cJ2_checkIndex_2214a 1 = .ok (.aload_n 1, 1) := by decide +kernel
theorem dJ2_checkIndex_2214a_2 : decode cJ2_checkIndex_2214a 2 = .ok (.invokestatic 48, 3) := by decide +kernel
theorem dJ2_checkIndex_2214a_5 : decode cJ2_checkIndex_2214a 5 = .ok (.invokestatic 414, 3) := by decide +kernel
theorem dJ2_checkIndex_2214a_8 : decode cJ2_checkIndex_2214a 8 = .ok (.return_, 1) := by decide +kernel
theorem dJ7_fill_53178_0 : decode cJ7_fill_53178 0 = .ok (.iconst 0, 1) := by decide +kernel
theorem dJ7_fill_53178_1 : decode cJ7_fill_53178 1 = .ok (.istore_n 2, 1) := by decide +kernel
theorem dJ7_fill_53178_2 : decode cJ7_fill_53178 2 = .ok (.aload_n 0, 1) := by decide +kernel
theorem dJ7_fill_53178_3 : decode cJ7_fill_53178 3 = .ok (.arraylength, 1) := by decide +kernel
theorem dJ7_fill_53178_4 : decode cJ7_fill_53178 4 = .ok (.istore_n 3, 1) := by decide +kernel
theorem dJ7_fill_53178_5 : decode cJ7_fill_53178 5 = .ok (.iload_n 2, 1) := by decide +kernel
theorem dJ7_fill_53178_6 : decode cJ7_fill_53178 6 = .ok (.iload_n 3, 1) := by decide +kernel
theorem dJ7_fill_53178_7 : decode cJ7_fill_53178 7 = .ok (.if_icmp .ge 13, 3) := by decide +kernel
theorem dJ7_fill_53178_10 : decode cJ7_fill_53178 10 = .ok (.aload_n 0, 1) := by decide +kernel
theorem dJ7_fill_53178_11 : decode cJ7_fill_53178 11 = .ok (.iload_n 2, 1) := by decide +kernel
theorem dJ7_fill_53178_12 : decode cJ7_fill_53178 12 = .ok (.iload_n 1, 1) := by decide +kernel
theorem dJ7_fill_53178_13 : decode cJ7_fill_53178 13 = .ok (.iastore, 1) := by decide +kernel
theorem dJ7_fill_53178_14 : decode cJ7_fill_53178 14 = .ok (.iinc 2 1, 3) := by decide +kernel
theorem dJ7_fill_53178_17 : decode cJ7_fill_53178 17 = .ok (.goto (-12), 3) := by decide +kernel
theorem dJ7_fill_53178_20 : decode cJ7_fill_53178 20 = .ok (.return_, 1) := by decide +kernel
theorem dJ3_checkIndex_8e157_0 : decode cJ3_checkIndex_8e157 0 = .ok (.iload_n 0, 1) := by decide +kernel
theorem dJ3_checkIndex_8e157_1 : decode cJ3_checkIndex_8e157 1 = .ok (.ifCond .lt 8, 3) := by decide +kernel
theorem dJ3_checkIndex_8e157_4 : decode cJ3_checkIndex_8e157 4 = .ok (.iload_n 0, 1) := by decide +kernel
theorem dJ3_checkIndex_8e157_5 : decode cJ3_checkIndex_8e157 5 = .ok (.iload_n 1, 1) := by decide +kernel
theorem dJ3_checkIndex_8e157_6 : decode cJ3_checkIndex_8e157 6 = .ok (.if_icmp .lt 10, 3) := by decide +kernel
theorem dJ3_checkIndex_8e157_9 : decode cJ3_checkIndex_8e157 9 = .ok (.aload_n 2, 1) := by decide +kernel
theorem dJ3_checkIndex_8e157_10 : decode cJ3_checkIndex_8e157 10 = .ok (.iload_n 0, 1) := by decide +kernel
theorem dJ3_checkIndex_8e157_11 : decode cJ3_checkIndex_8e157 11 = .ok (.iload_n 1, 1) := by decide +kernel
theorem dJ3_checkIndex_8e157_12 : decode cJ3_checkIndex_8e157 12 = .ok (.invokestatic 95, 3) := by decide +kernel
theorem dJ3_checkIndex_8e157_15 : decode cJ3_checkIndex_8e157 15 = .ok (.athrow, 1) := by decide +kernel
theorem dJ3_checkIndex_8e157_16 : decode cJ3_checkIndex_8e157 16 = .ok (.iload_n 0, 1) := by decide +kernel
theorem dJ3_checkIndex_8e157_17 : decode cJ3_checkIndex_8e157 17 = .ok (.ireturn, 1) := by decide +kernel
